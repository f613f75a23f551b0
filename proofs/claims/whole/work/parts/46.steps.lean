def nb (q : Nat → Nat → Nat) (c d : Nat) : Prop := ∃ s, s < 4 ∧ nbo q c s = some d
theorem nb_sym {q : Nat → Nat → Nat} (hb : Bd q) {c d : Nat} (hc : c < q 0 0 * q 0 1) (h : nb q c d) : nb q d c := by
  obtain ⟨s, hs, h⟩ := h
  exact ⟨3 - s, by omega, nbo_sym hb hc hs h⟩
theorem nb_lt {q : Nat → Nat → Nat} (hb : Bd q) {c d : Nat} (hc : c < q 0 0 * q 0 1) (h : nb q c d) : d < q 0 0 * q 0 1 := by
  obtain ⟨s, hs, h⟩ := h
  exact (nbo_rel hb hc hs h).1
theorem nbo_ne {q : Nat → Nat → Nat} (hb : Bd q) {c s d : Nat} (hc : c < q 0 0 * q 0 1) (hs : s < 4) (h : nbo q c s = some d) : d ≠ c := by
  have y := (nbo_rel hb hc hs h).2
  intro z
  subst z
  unfold nrel at y
  generalize d / q 0 1 = a at y
  generalize d % q 0 1 = b at y
  omega
/-- the highest step in j months from f -/
def mD (q : Nat → Nat → Nat) (c d f : Nat) : Nat → Nat
  | 0 => 0
  | j + 1 => max (mD q c d f j) (dd q c d (f + j))
theorem mD_sym (q : Nat → Nat → Nat) (c d f : Nat) : ∀ j, mD q c d f j = mD q d c f j
  | 0 => rfl
  | j + 1 => by unfold mD; rw [mD_sym q c d f j, dd_sym]
theorem mD_le {q : Nat → Nat → Nat} (hb : Bd q) {c d f : Nat} (hc : c < q 0 0 * q 0 1) (hd : d < q 0 0 * q 0 1) : ∀ j, f + j ≤ 12 → mD q c d f j ≤ 500
  | 0, _ => Nat.zero_le _
  | j + 1, h => by
    have a := mD_le hb hc hd (f := f) j (by omega)
    have b := dd_le hb hc hd (m := f + j) (by omega)
    unfold mD; omega
theorem mD_1 (q : Nat → Nat → Nat) (c d f : Nat) : mD q c d f 1 = dd q c d f := by
  show max 0 (dd q c d (f + 0)) = _
  rw [Nat.add_zero, Nat.zero_max]
theorem mD_ok' (q : Nat → Nat → Nat) (c d f v : Nat) : ∀ j, mD q c d f j ≤ v ↔ ∀ m, f ≤ m → m < f + j → dd q c d m ≤ v := by
  intro j
  induction j with
  | zero => exact ⟨fun _ m a b => absurd b (by omega), fun _ => Nat.zero_le _⟩
  | succ j ih =>
    unfold mD
    constructor
    · intro h m a b
      by_cases e : m = f + j
      · subst e; omega
      · exact ih.mp (by omega) m a (by omega)
    · intro h
      have a := ih.mpr fun m a b => h m a (by omega)
      have b := h (f + j) (by omega) (by omega)
      omega
theorem mD_ok (q : Nat → Nat → Nat) (c d : Nat) {f l : Nat} (v : Nat) (h : f ≤ l) : mD q c d f (l + 1 - f) ≤ v ↔ okT q c d f l v := by
  rw [mD_ok']
  exact ⟨fun z m a b => z m a (by omega), fun z m a b => z m a (by omega)⟩
def sR (q : Nat → Nat → Nat) (f j c s : Nat) : Nat := match nbo q c s with
  | none => 0
  | some d => mD q c d f j
def aR (q : Nat → Nat → Nat) (m c s : Nat) : Nat := match nbo q c s with
  | none => 0
  | some d => dd q c d m
theorem sR_s (q : Nat → Nat → Nat) (f j c s : Nat) : sR q f (j + 1) c s = max (sR q f j c s) (aR q (f + j) c s) := by
  unfold sR aR
  cases nbo q c s with
  | none => rfl
  | some d => rfl
theorem sR_0 (q : Nat → Nat → Nat) (f c s : Nat) : sR q f 0 c s = 0 := by
  unfold sR
  cases nbo q c s with
  | none => rfl
  | some d => rfl
theorem sR_le {q : Nat → Nat → Nat} (hb : Bd q) {c f s j : Nat} (hc : c < q 0 0 * q 0 1) (hs : s < 4) (h : f + j ≤ 12) : sR q f j c s ≤ 500 := by
  unfold sR
  cases e : nbo q c s with
  | none => exact Nat.zero_le _
  | some d => exact mD_le hb hc (nbo_rel hb hc hs e).1 j h
theorem aR_le {q : Nat → Nat → Nat} (hb : Bd q) {c m s : Nat} (hc : c < q 0 0 * q 0 1) (hs : s < 4) (h : m < 12) : aR q m c s ≤ 500 := by
  unfold aR
  cases e : nbo q c s with
  | none => exact Nat.zero_le _
  | some d => exact dd_le hb hc (nbo_rel hb hc hs e).1 h
theorem apt {M : Mem} {q : Nat → Nat → Nat} (hb : Bd q) {m : Nat} (hr : HR M 28 q m) (hm : m < 12) {c s : Nat} (hc : c < q 0 0 * q 0 1) (hs : s < 4) : f_X10_apartTo M (nI c) (oI (nbo q c s)) = some (nI (aR q m c s)) := by
  have hn := hb.n30
  unfold f_X10_apartTo aR
  cases e : nbo q c s with
  | none => rfl
  | some d =>
    have hd := (nbo_rel hb hc hs e).1
    have a1 := hN_le hb hc hm
    have a2 := hN_le hb hd hm
    show (if nI d = -9 then _ else _) = _
    simp only [oI, ↓reduceIte, ne9 (show d < 2147483648 by omega), if_pos (inbT (show c < 30 by omega) (by decide)), if_pos (inbT (show d < 30 by omega) (by decide)), nI_clamp (show c < 2 ^ 31 by omega), nI_clamp (show d < 2 ^ 31 by omega), hr c hc, hr d hd, abI (show hN q c m < 1000000 by omega) (show hN q d m < 1000000 by omega)]
    rfl
theorem u_ag {M : Mem} {k j : Nat} {v : Int32} (h : k = 4 ∨ (28 ≤ k ∧ k ≤ 37)) : AgC M (up M k j v) := fun c a b => up_n M j v (by omega)
theorem ms_i {q : Nat → Nat → Nat} (hb : Bd q) {f j : Nat} (hf : f + j < 12) (kc : Mem → Option Mem) (N : Nat) : ∀ k i : Nat, ∀ M : Mem, i ≤ q 0 0 * q 0 1 → q 0 0 * q 0 1 - i < k → PC M q → HR M 28 q (f + j) → (∀ c, c < q 0 0 * q 0 1 → M 29 c = nI (sR q f (if c < i then j + 1 else j) c 2) ∧ M 30 c = nI (sR q f (if c < i then j + 1 else j) c 3)) → ∃ M', f_X10_measure_l55 kc N k M (nI i) = kc M' ∧ AgC M M' ∧ ∀ c, c < q 0 0 * q 0 1 → M' 29 c = nI (sR q f (j + 1) c 2) ∧ M' 30 c = nI (sR q f (j + 1) c 3) := by
  have hn := hb.n30
  intro k
  induction k with
  | zero => intro i M _ h; omega
  | succ k ih =>
    intro i M h1 h2 hc hr hM
    rw [f_X10_measure_l55, st_c hc, bnd]
    by_cases e : i = q 0 0 * q 0 1
    · rw [if_pos (by rw [e]; exact Int32.le_refl _)]
      refine ⟨M, rfl, AgC.rf, fun c hcn => ?_⟩
      have y := hM c hcn
      rw [if_pos (by omega)] at y
      exact y
    · have hi : i < q 0 0 * q 0 1 := by omega
      have e1 : ¬ nI (q 0 0 * q 0 1) ≤ nI i := nI_ge hi (by omega)
      obtain ⟨m1, m2⟩ := hM i hi
      rw [if_neg (by omega)] at m1 m2
      have l1 := sR_le hb hi (f := f) (j := j) (s := 2) (by decide) (by omega)
      have l2 := sR_le hb hi (f := f) (j := j) (s := 3) (by decide) (by omega)
      have l3 := aR_le hb hi (s := 2) (by decide) hf
      have l4 := aR_le hb hi (s := 3) (by decide) hf
      have hc1 : PC (up M 29 i (nI (sR q f (j + 1) i 2))) q := hc.ag (u_ag (by omega))
      have hr1 : HR (up M 29 i (nI (sR q f (j + 1) i 2))) 28 q (f + j) := fun c hcn => by rw [up_n _ _ _ (by decide)]; exact hr c hcn
      have n2 : f_X3_neighbour M (nI i) 2 = some (oI (nbo q i 2)) := nb_c hb hc hi (show 2 < 4 by decide)
      have n3 : f_X3_neighbour (up M 29 i (nI (sR q f (j + 1) i 2))) (nI i) 3 = some (oI (nbo q i 3)) := nb_c hb hc1 hi (show 3 < 4 by decide)
      simp only [↓reduceIte, e1, if_pos (inbT (show i < 30 by omega) (by decide)), nI_clamp (show i < 2 ^ 31 by omega), n2, bnd, apt hb hr hf hi (show 2 < 4 by decide), nmd, m1, mxI (show sR q f j i 2 < 2147483648 by omega) (show aR q (f + j) i 2 < 2147483648 by omega)]
      rw [← sR_s]
      simp only [n3, bnd, apt hb hr1 hf hi (show 3 < 4 by decide), up_n M i (nI (sR q f (j + 1) i 2)) (show 30 ≠ 29 by decide), m2, mxI (show sR q f j i 3 < 2147483648 by omega) (show aR q (f + j) i 3 < 2147483648 by omega), nI1]
      rw [← sR_s]
      obtain ⟨M', r1, r2, r3⟩ := ih (i + 1) (up (up M 29 i (nI (sR q f (j + 1) i 2))) 30 i (nI (sR q f (j + 1) i 3))) (by omega) (by omega) (hc1.ag (u_ag (by omega))) (fun c hcn => by rw [up_n _ _ _ (by decide)]; exact hr1 c hcn) (fun c hcn => by
        obtain ⟨y1, y2⟩ := hM c hcn
        by_cases a : c = i
        · subst a
          rw [if_pos (by omega)]
          exact ⟨by rw [up_n _ _ _ (by decide), up_ss], by rw [up_ss]⟩
        · rw [up_n _ _ _ (by decide), up_sn _ _ _ a, up_sn _ _ _ a, up_n _ _ _ (by decide), y1, y2]
          by_cases b : c < i
          · rw [if_pos b, if_pos (by omega)]; exact ⟨rfl, rfl⟩
          · rw [if_neg b, if_neg (by omega)]; exact ⟨rfl, rfl⟩)
      exact ⟨M', r1, (u_ag (by omega)).tr ((u_ag (by omega)).tr r2), r3⟩
def SR (M : Mem) (q : Nat → Nat → Nat) (f j : Nat) : Prop := ∀ c, c < q 0 0 * q 0 1 → M 29 c = nI (sR q f j c 2) ∧ M 30 c = nI (sR q f j c 3)
theorem ms_o {q : Nat → Nat → Nat} (hb : Bd q) {f l : Nat} (hl : l < 12) : ∀ k j : Nat, ∀ M : Mem, f + j ≤ l + 1 → l + 1 - (f + j) < k → PC M q → SR M q f j → ∃ M', f_X10_measure_l35 NN (nI l) k M (nI (f + j)) = some M' ∧ AgC M M' ∧ SR M' q f (l + 1 - f) := by
  have hn := hb.n30
  intro k
  induction k with
  | zero => intro j M _ h; omega
  | succ k ih =>
    intro j M h1 h2 hc hM
    rw [f_X10_measure_l35]
    by_cases e : f + j = l + 1
    · rw [if_pos (nI_lt (show l < f + j by omega) (by omega))]
      refine ⟨M, rfl, AgC.rf, ?_⟩
      rw [show l + 1 - f = j by omega]
      exact hM
    · have e1 : ¬ nI l < nI (f + j) := nI_nlt (by omega) (by omega)
      obtain ⟨M1, a1, a2, a3, a4⟩ := wh hb hc (show f + j < 12 by omega) (r := 28) (by omega)
      simp only [↓reduceIte, e1, a1, bnd]
      obtain ⟨M2, b1, b2, b3⟩ := ms_i hb (show f + j < 12 by omega) (fun M14 => f_X10_measure_l35 NN (nI l) k M14 (nI (f + j) + 1)) NN NN 0 M1 (Nat.zero_le _) (show _ < 1000 by omega) (hc.ag a2) a3 (fun c hcn => by rw [a4 29 (by decide), a4 30 (by decide), if_neg (by omega)]; exact hM c hcn)
      have b1' : f_X10_measure_l55 (fun M14 => f_X10_measure_l35 NN (nI l) k M14 (nI (f + j) + 1)) NN NN M1 0 = f_X10_measure_l35 NN (nI l) k M2 (nI (f + j) + 1) := b1
      rw [b1', nI1]
      obtain ⟨M3, d1, d2, d3⟩ := ih (j + 1) M2 (by omega) (by omega) ((hc.ag a2).ag b2) b3
      exact ⟨M3, d1, a2.tr (b2.tr d2), d3⟩
theorem ms_c {q : Nat → Nat → Nat} (hb : Bd q) {f l : Nat} (hf : f ≤ l) (hl : l < 12) : ∀ k i : Nat, ∀ M : Mem, i ≤ q 0 0 * q 0 1 → q 0 0 * q 0 1 - i < k → PC M q → (∀ c, c < i → M 29 c = 0 ∧ M 30 c = 0) → ∃ M', f_X10_measure_l2 NN (nI f) (nI l) k M (nI i) = some M' ∧ AgC M M' ∧ SR M' q f (l + 1 - f) := by
  have hn := hb.n30
  intro k
  induction k with
  | zero => intro i M _ h; omega
  | succ k ih =>
    intro i M h1 h2 hc hM
    rw [f_X10_measure_l2, st_c hc, bnd]
    by_cases e : i = q 0 0 * q 0 1
    · rw [if_pos (by rw [e]; exact Int32.le_refl _)]
      exact ms_o hb hl NN 0 M (by omega) (show _ < 1000 by omega) hc (fun c hcn => by rw [sR_0, sR_0]; exact hM c (by omega))
    · have hi : i < q 0 0 * q 0 1 := by omega
      have e1 : ¬ nI (q 0 0 * q 0 1) ≤ nI i := nI_ge hi (by omega)
      simp only [↓reduceIte, e1, if_pos (inbT (show i < 30 by omega) (by decide)), nI_clamp (show i < 2 ^ 31 by omega), nmd, nI1]
      obtain ⟨M', r1, r2, r3⟩ := ih (i + 1) (up (up M 29 i 0) 30 i 0) (by omega) (by omega) ((hc.ag (u_ag (by omega))).ag (u_ag (by omega))) (fun c hci => by
        by_cases a : c = i
        · subst a
          exact ⟨by rw [up_n _ _ _ (by decide), up_ss], by rw [up_ss]⟩
        · rw [up_n _ _ _ (by decide), up_sn _ _ _ a, up_sn _ _ _ a, up_n _ _ _ (by decide)]
          exact hM c (by omega))
      exact ⟨M', r1, (u_ag (by omega)).tr ((u_ag (by omega)).tr r2), r3⟩
theorem me_c {M : Mem} {q : Nat → Nat → Nat} (hb : Bd q) (hc : PC M q) {f l : Nat} (hf : f ≤ l) (hl : l < 12) : ∃ M', f_X10_measure NN M (nI f) (nI l) = some M' ∧ AgC M M' ∧ SR M' q f (l + 1 - f) := by
  have hn := hb.n30
  exact ms_c hb hf hl NN 0 M (Nat.zero_le _) (show _ < 1000 by omega) hc (fun c h => absurd h (by omega))
theorem sa_c {M : Mem} {q : Nat → Nat → Nat} (hb : Bd q) {f j : Nat} (hs : SR M q f j) {c s d : Nat} (hc : c < q 0 0 * q 0 1) (h4 : s < 4) (h : nbo q c s = some d) : f_X10_stepAt M (nI c) (nI s) (nI d) = some (nI (mD q c d f j)) := by
  have hn := hb.n30
  have hd := (nbo_rel hb hc h4 h).1
  have hy := nbo_sym hb hc h4 h
  unfold f_X10_stepAt
  rcases (show s = 0 ∨ s = 1 ∨ s = 2 ∨ s = 3 by omega) with rfl | rfl | rfl | rfl
  · simp only [↓reduceIte, show nI 0 = 0 from rfl, if_pos (inbT (show d < 30 by omega) (by decide)), nI_clamp (show d < 2 ^ 31 by omega), (hs d hd).2]
    unfold sR
    rw [show nbo q d 3 = some c from hy, mD_sym]
  · simp only [↓reduceIte, show ¬ nI 1 = 0 by decide, show nI 1 = 1 from rfl, n10, if_pos (inbT (show d < 30 by omega) (by decide)), nI_clamp (show d < 2 ^ 31 by omega), (hs d hd).1]
    unfold sR
    rw [show nbo q d 2 = some c from hy, mD_sym]
  · simp only [↓reduceIte, show ¬ nI 2 = 0 by decide, show ¬ nI 2 = 1 by decide, show nI 2 = 2 from rfl, show ¬ (2 : Int32) = 0 by decide, show ¬ (2 : Int32) = 1 by decide, if_pos (inbT (show c < 30 by omega) (by decide)), nI_clamp (show c < 2 ^ 31 by omega), (hs c hc).1]
    unfold sR
    rw [h]
  · simp only [↓reduceIte, show ¬ nI 3 = 0 by decide, show ¬ nI 3 = 1 by decide, show ¬ nI 3 = 2 by decide, if_pos (inbT (show c < 30 by omega) (by decide)), nI_clamp (show c < 2 ^ 31 by omega), (hs c hc).2]
    unfold sR
    rw [h]
