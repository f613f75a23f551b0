theorem qs30 (q : Nat → Nat → Nat) (i v : Nat) {a : Nat} (h : a ≠ 3) : qs q 3 i v a = q a := funext fun b => qs_n (by omega)
theorem nbo_qs (q : Nat → Nat → Nat) (i v : Nat) : nbo (qs q 3 i v) = nbo q := by
  funext c s
  unfold nbo
  rw [qs30 q i v (show 0 ≠ 3 by decide)]
theorem isP_qs {q : Nat → Nat → Nat} {i v : Nat} {h : Nat → Nat} {r : Int32} (a : isP (qs q 3 i v) h r) : isP q h r := by
  unfold isP sW eW nb ed at a
  rw [qs30 q i v (show 0 ≠ 3 by decide), nbo_qs] at a
  exact a
theorem hL_eq (q : Nat → Nat → Nat) (m i x : Nat) : hF (qs q 3 i (q 3 i + x)) m = nU (hF q m) i (hF q m i + x) := by
  funext c
  unfold hF hN hK
  rw [qs30 q i _ (show 1 ≠ 3 by decide), qs30 q i _ (show 2 ≠ 3 by decide), qs30 q i _ (show 4 ≠ 3 by decide), qs30 q i _ (show 5 ≠ 3 by decide)]
  by_cases e : c = i
  · subst e
    rw [nU_s, qs_s]
    omega
  · rw [nU_n _ _ e, qs_n (by omega)]
theorem Bd_qs {q : Nat → Nat → Nat} (hb : Bd q) {i x : Nat} (hx : x ≤ 300) : Bd (qs q 3 i x) := by
  refine ⟨?_, fun c hc => ?_, fun m hm => ?_⟩
  · rw [qs30 q i x (show 0 ≠ 3 by decide)]; exact hb.1
  · rw [qs30 q i x (show 0 ≠ 3 by decide)] at hc
    obtain ⟨h1, h2, h3⟩ := hb.2.1 c hc
    rw [qs30 q i x (show 1 ≠ 3 by decide), qs30 q i x (show 2 ≠ 3 by decide)]
    refine ⟨h1, h2, ?_⟩
    by_cases e : c = i
    · subst e; rw [qs_s]; exact hx
    · rw [qs_n (by omega)]; exact h3
  · rw [qs30 q i x (show 4 ≠ 3 by decide), qs30 q i x (show 5 ≠ 3 by decide)]
    exact hb.2.2 m hm
theorem PM_qs {M : Mem} {q : Nat → Nat → Nat} (hp : PM M q) (i x : Nat) : PM (up M 6 i (nI x)) (qs q 3 i x) := by
  unfold PM
  rw [qs30 q i x (show 0 ≠ 3 by decide), qs30 q i x (show 1 ≠ 3 by decide), qs30 q i x (show 2 ≠ 3 by decide), qs30 q i x (show 4 ≠ 3 by decide), qs30 q i x (show 5 ≠ 3 by decide), up_n _ _ _ (show 0 ≠ 6 by decide), up_n _ _ _ (show 4 ≠ 6 by decide), up_n _ _ _ (show 5 ≠ 6 by decide), up_n _ _ _ (show 7 ≠ 6 by decide), up_n _ _ _ (show 8 ≠ 6 by decide)]
  refine ⟨hp.1, hp.2.1, fun c hc => ?_, hp.2.2.2⟩
  obtain ⟨h1, h2, h3⟩ := hp.2.2.1 c hc
  refine ⟨h1, h2, ?_⟩
  by_cases e : c = i
  · subst e; rw [up_ss, qs_s]
  · rw [up_sn _ _ _ e, qs_n (by omega)]; exact h3
/-- lifted by x at i -/
def hL (q : Nat → Nat → Nat) (m x i : Nat) : Nat → Nat := nU (hF q m) i (hF q m i + x)
theorem hL_le {q : Nat → Nat → Nat} (hb : Bd q) (h9 : ∀ c, c < q 0 0 * q 0 1 → q 3 c ≤ 99) {m x i : Nat} (hm : m < 12) (hx : x ≤ 99) (hi : i < q 0 0 * q 0 1) : ∀ c, c < q 0 0 * q 0 1 → hL q m x i c ≤ 500 := fun c hc => by
  have h1 := h9 i hi
  have hb' := Bd_qs hb (i := i) (x := q 3 i + x) (by omega)
  have y := hN_le hb' (c := c) (m := m) (by rw [qs30 q i _ (show 0 ≠ 3 by decide)]; exact hc) hm
  have z : hF (qs q 3 i (q 3 i + x)) m c ≤ 500 := y
  rw [hL_eq] at z
  exact z
theorem pil {M : Mem} {q : Nat → Nat → Nat} (hb : Bd q) (h9 : ∀ c, c < q 0 0 * q 0 1 → q 3 c ≤ 99) {m x i : Nat} (hm : m < 12) (hx : x ≤ 99) (hi : i < q 0 0 * q 0 1) (hc : PC M q) (hh : hR M q (hF q m)) : ∃ r M', f_X9_poolIfLifted NN M (nI i) (nI x) = some (r, M') ∧ AgC M M' ∧ hR M' q (hF q m) ∧ isP q (hL q m x i) r := by
  have hn := hb.n30
  have f1 := hh i hi
  have hl := hL_le hb h9 hm hx hi
  obtain ⟨r, M3, b1, b2, b3⟩ := ad_c hb (M := up M 35 i (nI (hF q m i + x))) (h := hL q m x i) (hc.ag (u_ag (by omega))) (fun c hcn => ⟨V_up (fun c hcn => (hh c hcn).1) i _ c hcn, hl c hcn⟩)
  have e3 : M3 35 i = nI (hF q m i + x) := by rw [b2 35 (by decide), up_ss]
  unfold f_X9_poolIfLifted
  simp only [if_pos (inbT (show i < 30 by omega) (by decide)), nI_clamp (show i < 2 ^ 31 by omega), f1.1, nI_add, nmd, b1, bnd, e3, pk_sub (show x ≤ hF q m i + x by omega)]
  refine ⟨r, _, rfl, fun k a b => ?_, fun c hcn => ?_, b3⟩
  · rw [up_n _ _ _ (by omega), b2 k (by omega), up_n _ _ _ (by omega)]
  · refine ⟨?_, (hh c hcn).2⟩
    by_cases e : c = i
    · subst e
      rw [up_ss]
      congr 1; omega
    · rw [up_sn _ _ _ e, b2 35 (by decide), up_sn _ _ _ e]
      exact (hh c hcn).1
theorem dr_m {M : Mem} {q : Nat → Nat → Nat} (hb : Bd q) (h9 : ∀ c, c < q 0 0 * q 0 1 → q 3 c ≤ 99) {m x i : Nat} (hm : m < 12) (hx : x ≤ 99) (hi : i < q 0 0 * q 0 1) (hp : PM M q) : ∃ r M', f_X12_poolOf NN (up M 6 i (nI (q 3 i + x))) (nI m) = some (r, M') ∧ M' 6 i = nI (q 3 i + x) ∧ AgM M (up M' 6 i (nI (q 3 i))) ∧ isP q (hL q m x i) r := by
  have hn := hb.n30
  have h1 := h9 i hi
  obtain ⟨r, M', b1, b2, b3⟩ := po_m (Bd_qs hb (i := i) (x := q 3 i + x) (by omega)) (PM_qs hp i (q 3 i + x)) hm
  rw [hL_eq] at b3
  have e6 : M' 6 = up M 6 i (nI (q 3 i + x)) 6 := b2 6 (by decide)
  refine ⟨r, M', b1, by rw [e6, up_ss], ⟨fun k a b => ?_, fun j a => ?_⟩, isP_qs b3⟩
  · by_cases e : k = 6
    · subst e
      funext c
      by_cases w : c = i
      · subst w; rw [up_ss]; exact ((hp.2.2.1 c hi).2.2).symm
      · rw [up_sn _ _ _ w, e6, up_sn _ _ _ w]
    · rw [up_n _ _ _ e, b2 k (by omega), up_n _ _ _ e]
  · rw [up_n _ _ _ (by decide), b2 0 (by decide), up_n _ _ _ (by decide)]
theorem dr_l {q : Nat → Nat → Nat} (hb : Bd q) (h9 : ∀ c, c < q 0 0 * q 0 1 → q 3 c ≤ 99) {m x : Nat} (hm : m < 12) (hx : x ≤ 99) (x3 : Int32) : ∀ k k' i b : Nat, ∀ Mc Mm : Mem, ∀ p : Int32, b < q 0 0 * q 0 1 → i ≤ q 0 0 * q 0 1 → q 0 0 * q 0 1 - i < k → q 0 0 * q 0 1 - i < k' → PC Mc q → hR Mc q (hF q m) → PM Mm q → isP q (hL q m x b) p → ∃ b' p' Mc' Mm', b' < q 0 0 * q 0 1 ∧ isP q (hL q m x b') p' ∧ f_X9_bestLifted_l12 NN (nI x) k Mc (nI b) p (nI i) = some (nI b', Mc') ∧ f_X12_drain_l52 NN (nI m) (nI x) x3 k' Mm (nI b) p (nI i) = (if x3 = 0 then some (nI b', Mm') else some (p', Mm')) ∧ AgC Mc Mc' ∧ hR Mc' q (hF q m) ∧ AgM Mm Mm' := by
  have hn := hb.n30
  intro k
  induction k with
  | zero => intro k' i b Mc Mm p _ _ h; omega
  | succ k ih =>
    intro k' i b Mc Mm p hbn h1 h2 h3 hc hh hp hP
    obtain ⟨k', rfl⟩ : ∃ j, k' = j + 1 := ⟨k' - 1, by omega⟩
    rw [f_X9_bestLifted_l12, f_X12_drain_l52, st_c hc, al_m hp, bnd, bnd]
    by_cases e : i = q 0 0 * q 0 1
    · rw [if_pos (by rw [e]; exact Int32.le_refl _), if_pos (by rw [e]; exact Int32.le_refl _)]
      exact ⟨b, p, Mc, Mm, hbn, hP, rfl, rfl, AgC.rf, hh, AgM.rf⟩
    · have hi : i < q 0 0 * q 0 1 := by omega
      have e1 : ¬ nI (q 0 0 * q 0 1) ≤ nI i := nI_ge hi (by omega)
      obtain ⟨r, M1, a1, a2, a3, a4⟩ := pil hb h9 hm hx hi hc hh
      obtain ⟨r', M2, b1, b2, b3, b4⟩ := dr_m hb h9 hm hx hi hp
      have er := isP_un hb (hL_le hb h9 hm hx hi) b4 a4
      subst er
      have f3 := (hp.2.2.1 i hi).2.2
      simp only [↓reduceIte, e1, a1, bnd, if_pos (inbT (show i < 30 by omega) (by decide)), nI_clamp (show i < 2 ^ 31 by omega), f3, nI_add, nmd, b1, b2, pk_sub (show x ≤ q 3 i + x by omega), show q 3 i + x - x = q 3 i by omega, ne9 (show b < 2147483648 by omega), nI1]
      by_cases w : p ≤ r'
      · simp only [↓reduceIte, w]
        obtain ⟨b', p', Mc', Mm', s1, s2, s3, s4, s5, s6, s7⟩ := ih k' (i + 1) b M1 _ p hbn (by omega) (by omega) (by omega) (hc.ag a2) a3 (hp.ag b3) hP
        exact ⟨b', p', Mc', Mm', s1, s2, s3, s4, a2.tr s5, s6, b3.tr s7⟩
      · simp only [↓reduceIte, w]
        obtain ⟨b', p', Mc', Mm', s1, s2, s3, s4, s5, s6, s7⟩ := ih k' (i + 1) i M1 _ r' hi (by omega) (by omega) (by omega) (hc.ag a2) a3 (hp.ag b3) a4
        exact ⟨b', p', Mc', Mm', s1, s2, s3, s4, a2.tr s5, s6, b3.tr s7⟩
theorem dr_0 {Mc Mm : Mem} {q : Nat → Nat → Nat} (hb : Bd q) (h9 : ∀ c, c < q 0 0 * q 0 1 → q 3 c ≤ 99) {m x : Nat} (hm : m < 12) (hx : x ≤ 99) (hpos : 0 < q 0 0 * q 0 1) (x3 : Int32) (hc : PC Mc q) (hh : hR Mc q (hF q m)) (hp : PM Mm q) (K : Nat) (hK : 100 ≤ K) : ∃ b' p' Mc' Mm', b' < q 0 0 * q 0 1 ∧ isP q (hL q m x b') p' ∧ f_X9_bestLifted NN Mc (nI x) = some (nI b', Mc') ∧ f_X12_drain_l52 NN (nI m) (nI x) x3 (K + 1) Mm (-9) (-9) 0 = (if x3 = 0 then some (nI b', Mm') else some (p', Mm')) ∧ AgC Mc Mc' ∧ hR Mc' q (hF q m) ∧ AgM Mm Mm' := by
  have hn := hb.n30
  obtain ⟨r, M1, a1, a2, a3, a4⟩ := pil hb h9 hm hx hpos hc hh
  obtain ⟨r', M2, b1, b2, b3, b4⟩ := dr_m hb h9 hm hx hpos hp
  have er := isP_un hb (hL_le hb h9 hm hx hpos) b4 a4
  subst er
  have f3 := (hp.2.2.1 0 hpos).2.2
  have a1' : f_X9_poolIfLifted NN Mc 0 (nI x) = some (r', M1) := a1
  obtain ⟨b', p', Mc', Mm', s1, s2, s3, s4, s5, s6, s7⟩ := dr_l hb h9 hm hx x3 NN K 1 0 M1 _ r' hpos (by omega) (show _ < 1000 by omega) (by omega) (hc.ag a2) a3 (hp.ag b3) a4
  refine ⟨b', p', Mc', Mm', s1, s2, ?_, ?_, a2.tr s5, s6, b3.tr s7⟩
  · unfold f_X9_bestLifted
    rw [a1', bnd]
    exact s3
  · show f_X12_drain_l52 NN (nI m) (nI x) x3 (K + 1) Mm (-9) (-9) (nI 0) = _
    rw [f_X12_drain_l52, al_m hp, bnd]
    have e1 : ¬ nI (q 0 0 * q 0 1) ≤ nI 0 := nI_ge hpos (by omega)
    simp only [↓reduceIte, e1, if_pos (inbT (show 0 < 30 by decide) (by decide)), nI_clamp (show 0 < 2 ^ 31 by decide), f3, nI_add, nmd, b1, bnd, b2, pk_sub (show x ≤ q 3 0 + x by omega), show q 3 0 + x - x = q 3 0 by omega, nI1]
    exact s4
theorem w19 (x : Int32) : (∃ v : Nat, v ≤ 99 ∧ x = nI v ∧ f_X11_isWithin x 1 99 = some 1 ∧ f_X12_within x 1 99 = some 1) ∨ (f_X11_isWithin x 1 99 = some 0 ∧ f_X12_within x 1 99 = some 0) := by
  rcases wi_cs x 1 99 with ⟨h1, h2, h3, h4⟩ | h
  · left
    have h5 : ¬ x < 0 := fun z => h3 (by
      rw [Int32.lt_iff_toInt_lt] at z ⊢
      have e0 : (0 : Int32).toInt = 0 := by decide
      have e1 : (1 : Int32).toInt = 1 := by decide
      omega)
    obtain ⟨j, hj, e⟩ := nI_of2 (n := 99) (by decide) h5 (nlt h4)
    exact ⟨j, hj, e, h1, h2⟩
  · exact Or.inr h
theorem sim_drain {Mc Mm : Mem} (h : Sim Mc Mm) (x1 : Int32) (x2 : Int32) (x3 : Int32) : ∃ (r : Int32) (Mc' : Mem) (Mm' : Mem), f_X11_drain NN Mc x1 x2 x3 = some (r, Mc') ∧ f_X12_drain NN Mm x1 x2 x3 = some (r, Mm') ∧ Sim Mc' Mm' := by
  have hS := h
  obtain ⟨⟨q, hb, h9, hc, hm⟩, -⟩ := h
  have hn := hb.n30
  have n2 : ¬ (-2 : Int32) = 0 := by decide
  have n1 : ¬ (-1 : Int32) = 0 := by decide
  have n3 : ¬ (-3 : Int32) = 0 := by decide
  unfold f_X11_drain f_X12_drain
  rcases rf_cs hb hc hm x1 with ⟨m, hm12, rfl, hpos, r1, r2, r3, r4, r5⟩ | ⟨r1, r2, r3, r4⟩ | ⟨r1, r2, r3⟩
  · rcases w19 x2 with ⟨x, hx, rfl, g1, g2⟩ | ⟨g1, g2⟩
    · rcases wi_n (x := x3) (hi := 1) (n := 1) (by decide) with ⟨y, hy, rfl, k1, k2⟩ | ⟨k1, k2⟩
      · obtain ⟨M1, a1, a2, a3, a4⟩ := wh hb hc hm12 (r := 35) (by omega)
        obtain ⟨b', p', Mc', Mm', s1, s2, s3, s4, s5, s6, s7⟩ := dr_0 hb h9 hm12 hx hpos (nI y) (hc.ag a2) (HR_hR hb hm12 a3) hm 999 (by decide)
        have s4' : f_X12_drain_l52 NN (nI m) (nI x) (nI y) NN Mm (-9) (-9) 0 = (if nI y = 0 then some (nI b', Mm') else some (p', Mm')) := s4
        have ms : f_X9_measure NN Mc (nI m) = some M1 := by unfold f_X9_measure; rw [a1]; rfl
        simp only [↓reduceIte, g1, g2, k1, k2, r1, r3, r4, r5, bnd, n10, ms, s3, s4']
        by_cases w : nI y = 0
        · simp only [↓reduceIte, w]
          exact ⟨_, _, _, rfl, rfl, hS.ag (a2.tr s5) s7⟩
        · obtain ⟨r, M3, c1, c2, c3, c4⟩ := pil hb h9 hm12 hx s1 ((hc.ag a2).ag s5) s6
          have er := isP_un hb (hL_le hb h9 hm12 hx s1) c4 s2
          simp only [↓reduceIte, w, c1, bnd, er]
          exact ⟨_, _, _, rfl, rfl, hS.ag ((a2.tr s5).tr c2) s7⟩
      · simp only [↓reduceIte, g1, g2, k1, k2, r2, r3, bnd, n10, n2]
        exact ⟨_, _, _, rfl, rfl, hS⟩
    · simp only [↓reduceIte, g1, g2, r2, r3, bnd, n10, n2]
      exact ⟨_, _, _, rfl, rfl, hS⟩
  · rcases w19 x2 with ⟨x, hx, rfl, g1, g2⟩ | ⟨g1, g2⟩
    · rcases wi_n (x := x3) (hi := 1) (n := 1) (by decide) with ⟨y, hy, rfl, k1, k2⟩ | ⟨k1, k2⟩
      · simp only [↓reduceIte, g1, g2, k1, k2, r1, r3, r4, bnd, n10, n3]
        exact ⟨_, _, _, rfl, rfl, hS⟩
      · simp only [↓reduceIte, g1, g2, k1, k2, r2, r3, bnd, n10, n2]
        exact ⟨_, _, _, rfl, rfl, hS⟩
    · simp only [↓reduceIte, g1, g2, r2, r3, bnd, n10, n2]
      exact ⟨_, _, _, rfl, rfl, hS⟩
  · rcases w19 x2 with ⟨x, hx, rfl, g1, g2⟩ | ⟨g1, g2⟩
    · rcases wi_n (x := x3) (hi := 1) (n := 1) (by decide) with ⟨y, hy, rfl, k1, k2⟩ | ⟨k1, k2⟩
      · simp only [↓reduceIte, g1, k1, r1, r3, bnd, n10, n1]
        exact ⟨_, _, _, rfl, rfl, hS⟩
      · simp only [↓reduceIte, g1, k1, r2, r3, bnd, n10, n1]
        exact ⟨_, _, _, rfl, rfl, hS⟩
    · simp only [↓reduceIte, g1, r2, r3, bnd, n1]
      exact ⟨_, _, _, rfl, rfl, hS⟩
