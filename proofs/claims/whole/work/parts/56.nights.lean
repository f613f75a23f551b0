def MK (M : Mem) (p : Nat → Nat) (t n : Nat) : Prop := ∀ c, c < n → (M 14 c = 0 ∧ ∀ a, a < t → p a ≠ c) ∨ (M 14 c = 1 ∧ ∃ a, a < t ∧ p a = c)
def WM (M : Mem) (w : Nat → Nat) (n : Nat) : Prop := ∀ c, c < n → M 13 c = nI (w c)
/-- the lowest not taken yet -/
theorem gs_l {M : Mem} {q : Nat → Nat → Nat} (hb : Bd q) (hp : PM M q) {w p : Nat → Nat} {t : Nat} (hw : ∀ c, c < q 0 0 * q 0 1 → w c ≤ 1001) (hW : WM M w (q 0 0 * q 0 1)) (hK : MK M p t (q 0 0 * q 0 1)) (kc : Int32 → Option Mem) (N : Nat) : ∀ k i : Nat, ∀ x : Int32, i ≤ q 0 0 * q 0 1 → q 0 0 * q 0 1 - i < k → ((x = -9 ∧ ∀ d, d < i → ¬ M 14 d = 0) ∨ ∃ b, b < i ∧ x = nI b ∧ M 14 b = 0 ∧ ∀ d, d < i → M 14 d = 0 → KK w b ≤ KK w d) → ∃ x', f_X12_goNight_l44 kc N M k x (nI i) = kc x' ∧ ((x' = -9 ∧ ∀ d, d < q 0 0 * q 0 1 → ¬ M 14 d = 0) ∨ ∃ b, b < q 0 0 * q 0 1 ∧ x' = nI b ∧ M 14 b = 0 ∧ ∀ d, d < q 0 0 * q 0 1 → M 14 d = 0 → KK w b ≤ KK w d) := by
  have hn := hb.n30
  intro k
  induction k with
  | zero => intro i x _ h; omega
  | succ k ih =>
    intro i x h1 h2 hx
    rw [f_X12_goNight_l44, al_m hp, bnd]
    by_cases e : i = q 0 0 * q 0 1
    · rw [if_pos (by rw [e]; exact Int32.le_refl _)]
      rw [e] at hx
      exact ⟨x, rfl, hx⟩
    · have hi : i < q 0 0 * q 0 1 := by omega
      have e1 : ¬ nI (q 0 0 * q 0 1) ≤ nI i := nI_ge hi (by omega)
      have wi := hw i hi
      simp only [↓reduceIte, e1, if_pos (inbT (show i < 30 by omega) (by decide)), nI_clamp (show i < 2 ^ 31 by omega), nI1]
      by_cases c1 : M 14 i = 0
      · rw [if_pos c1]
        rcases hx with ⟨x1, x2⟩ | ⟨b, x1, x2, x3, x4⟩
        · rw [if_pos x1]
          refine ih (i + 1) (nI i) (by omega) (by omega) (Or.inr ⟨i, by omega, rfl, c1, fun d hd y => ?_⟩)
          by_cases e2 : d = i
          · subst e2; exact Nat.le_refl _
          · exact absurd y (x2 d (by omega))
        · subst x2
          have wb := hw b (by omega)
          rw [if_neg (ne9 (show b < 2147483648 by omega)), if_pos (inbT (show b < 30 by omega) (by decide)), nI_clamp (show b < 2 ^ 31 by omega), hW b (by omega), hW i hi]
          simp only [nI_leI (show w b < 2 ^ 31 by omega) (show w i < 2 ^ 31 by omega)]
          by_cases c2 : w b ≤ w i
          · rw [if_pos c2]
            refine ih (i + 1) (nI b) (by omega) (by omega) (Or.inr ⟨b, by omega, rfl, x3, fun d hd y => ?_⟩)
            by_cases e2 : d = i
            · subst e2; unfold KK; omega
            · exact x4 d (by omega) y
          · rw [if_neg c2]
            refine ih (i + 1) (nI i) (by omega) (by omega) (Or.inr ⟨i, by omega, rfl, c1, fun d hd y => ?_⟩)
            by_cases e2 : d = i
            · subst e2; exact Nat.le_refl _
            · have := x4 d (by omega) y
              unfold KK at this ⊢; omega
      · rw [if_neg c1]
        refine ih (i + 1) x (by omega) (by omega) ?_
        rcases hx with ⟨x1, x2⟩ | ⟨b, x1, x2, x3, x4⟩
        · refine Or.inl ⟨x1, fun d hd => ?_⟩
          by_cases e2 : d = i
          · subst e2; exact c1
          · exact x2 d (by omega)
        · refine Or.inr ⟨b, by omega, x2, x3, fun d hd y => ?_⟩
          by_cases e2 : d = i
          · subst e2; exact absurd y c1
          · exact x4 d (by omega) y
theorem add0 (n : Nat) : nI n + 0 = nI n := nI_add n 0
theorem gl_l {q : Nat → Nat → Nat} (hb : Bd q) {w p : Nat → Nat} {T : Nat} (hP : PR p (q 0 0 * q 0 1)) (hT : T ≤ q 0 0 * q 0 1) (N : Nat) : ∀ k i : Nat, ∀ M : Mem, i ≤ q 0 0 * q 0 1 → q 0 0 * q 0 1 - i < k → PM M q → MK M p T (q 0 0 * q 0 1) → (∀ c, c < q 0 0 * q 0 1 → M 13 c = nI (if c < i then lf w p T c else w c)) → ∃ M', f_X12_goNight_l125 N k M (nI i) = some M' ∧ AgM M M' ∧ WM M' (lf w p T) (q 0 0 * q 0 1) := by
  have hn := hb.n30
  intro k
  induction k with
  | zero => intro i M _ h; omega
  | succ k ih =>
    intro i M h1 h2 hp hK hW
    rw [f_X12_goNight_l125, al_m hp, bnd]
    by_cases e : i = q 0 0 * q 0 1
    · rw [if_pos (by rw [e]; exact Int32.le_refl _)]
      refine ⟨M, rfl, AgM.rf, fun c hc => ?_⟩
      have y := hW c hc
      rw [if_pos (by omega)] at y
      exact y
    · have hi : i < q 0 0 * q 0 1 := by omega
      have e1 : ¬ nI (q 0 0 * q 0 1) ≤ nI i := nI_ge hi (by omega)
      have y := hW i hi
      rw [if_neg (by omega)] at y
      have nx : ∀ x : Nat, x = lf w p T i → ∃ M', f_X12_goNight_l125 N k (up M 13 i (nI x)) (nI (i + 1)) = some M' ∧ AgM M M' ∧ WM M' (lf w p T) (q 0 0 * q 0 1) := by
        intro x hx
        obtain ⟨M', r1, r2, r3⟩ := ih (i + 1) (up M 13 i (nI x)) (by omega) (by omega) (hp.ag (um_ag (by omega))) (fun c hc => by rw [up_n _ _ _ (by decide)]; exact hK c hc) (fun c hc => by
          by_cases e2 : c = i
          · subst e2; rw [up_ss, if_pos (by omega), hx]
          · rw [up_sn _ _ _ e2, hW c hc]
            by_cases e3 : c < i
            · rw [if_pos e3, if_pos (by omega)]
            · rw [if_neg e3, if_neg (by omega)])
        exact ⟨M', r1, (um_ag (by omega)).tr r2, r3⟩
      simp only [↓reduceIte, e1, if_pos (inbT (show i < 30 by omega) (by decide)), nI_clamp (show i < 2 ^ 31 by omega), y, nmd, nI1, add0]
      rcases hK i hi with ⟨k1, k2⟩ | ⟨k1, a, k2, k3⟩
      · rw [if_pos k1]
        exact nx (w i) (lf_out T k2).symm
      · rw [if_neg (by rw [k1]; decide)]
        refine nx (w i + 1) ?_
        rw [← k3]
        exact (lf_in hP T a hT k2).symm
theorem gn_l {q : Nat → Nat → Nat} (hb : Bd q) {w p : Nat → Nat} {kk : Nat} (hkk : kk ≤ 9) (hw : ∀ c, c < q 0 0 * q 0 1 → w c ≤ 1001) (hP : PR p (q 0 0 * q 0 1)) (hS : SO w p (q 0 0 * q 0 1)) : ∀ k t : Nat, ∀ M : Mem, t ≤ min kk (q 0 0 * q 0 1) → min kk (q 0 0 * q 0 1) - t < k → PM M q → MK M p t (q 0 0 * q 0 1) → WM M w (q 0 0 * q 0 1) → ∃ M', f_X12_goNight_l25 NN (nI kk) k M (nI t) = some M' ∧ AgM M M' ∧ WM M' (lf w p (min kk (q 0 0 * q 0 1))) (q 0 0 * q 0 1) := by
  have hn := hb.n30
  intro k
  induction k with
  | zero => intro t M _ h; omega
  | succ k ih =>
    intro t M h1 h2 hp hK hW
    have fin : t = min kk (q 0 0 * q 0 1) → ∃ M', f_X12_goNight_l125 NN NN M 0 = some M' ∧ AgM M M' ∧ WM M' (lf w p (min kk (q 0 0 * q 0 1))) (q 0 0 * q 0 1) := fun z => by
      rw [z] at hK
      exact gl_l hb hP (by omega) NN NN 0 M (Nat.zero_le _) (show _ < 1000 by omega) hp hK (fun c hc => by rw [if_neg (by omega)]; exact hW c hc)
    rw [f_X12_goNight_l25, al_m hp, bnd]
    by_cases e : kk ≤ t
    · rw [if_pos (nI_le e (show t < 2 ^ 31 by omega))]
      exact fin (by omega)
    · rw [if_neg (nI_ge (by omega) (by omega))]
      by_cases e2 : q 0 0 * q 0 1 ≤ t
      · rw [if_pos (nI_le e2 (show t < 2 ^ 31 by omega))]
        exact fin (by omega)
      · have ht : t < q 0 0 * q 0 1 := by omega
        rw [if_neg (nI_ge ht (by omega))]
        have o1 : t + 1 ≤ min kk (q 0 0 * q 0 1) := by omega
        have o2 : min kk (q 0 0 * q 0 1) - (t + 1) < k := by omega
        obtain ⟨x, r1, r2⟩ := gs_l hb hp hw hW hK (fun y3_19 => if inb y3_19 30 then nm (up M 14 y3_19.toNatClampNeg 1) fun M21 => f_X12_goNight_l25 NN (nI kk) k M21 (nI t + 1) else none) NN NN 0 (-9) (Nat.zero_le _) (show _ < 1000 by omega) (Or.inl ⟨rfl, fun d hd => absurd hd (by omega)⟩)
        have r1' : f_X12_goNight_l44 (fun y3_19 => if inb y3_19 30 then nm (up M 14 y3_19.toNatClampNeg 1) fun M21 => f_X12_goNight_l25 NN (nI kk) k M21 (nI t + 1) else none) NN M NN (-9) 0 = if inb x 30 then nm (up M 14 x.toNatClampNeg 1) fun M21 => f_X12_goNight_l25 NN (nI kk) k M21 (nI t + 1) else none := r1
        rw [r1']
        have pt := hP.1 t ht
        have ut : M 14 (p t) = 0 := by
          rcases hK (p t) pt with ⟨k1, _⟩ | ⟨_, a, k2, k3⟩
          · exact k1
          · exact absurd k3 (hP.2 a t k2 ht)
        have xb : x = nI (p t) := by
          rcases r2 with ⟨_, x2⟩ | ⟨b, x1, x2, x3, x4⟩
          · exact absurd ut (x2 _ pt)
          · obtain ⟨i, hi, y⟩ := PR_sur hP b x1
            have it : ¬ i < t := fun z => by
              rcases hK b x1 with ⟨_, k2⟩ | ⟨k1, _⟩
              · exact k2 i z y
              · rw [k1] at x3; exact absurd x3 (by decide)
            have l1 := x4 (p t) pt ut
            by_cases e3 : i = t
            · rw [x2, ← y, e3]
            · have l2 := hS t i (by omega) hi
              rw [y] at l2
              have l3 : KK w b = KK w (p t) := Nat.le_antisymm l1 l2
              unfold KK at l3
              rw [x2, show b = p t by omega]
        subst xb
        rw [if_pos (inbT (show p t < 30 by omega) (by decide)), nI_clamp (show p t < 2 ^ 31 by omega), nmx, nI1]
        obtain ⟨M', s1, s2, s3⟩ := ih (t + 1) (up M 14 (p t) 1) o1 o2 (hp.ag (um_ag (by omega))) (fun c hc => by
          by_cases e3 : c = p t
          · subst e3
            rw [up_ss]
            exact Or.inr ⟨rfl, t, by omega, rfl⟩
          · rw [up_sn _ _ _ e3]
            rcases hK c hc with ⟨k1, k2⟩ | ⟨k1, a, k2, k3⟩
            · refine Or.inl ⟨k1, fun a ha => ?_⟩
              by_cases e4 : a = t
              · subst e4; exact Ne.symm e3
              · exact k2 a (by omega)
            · exact Or.inr ⟨k1, a, by omega, k3⟩) (fun c hc => by rw [up_n _ _ _ (by decide)]; exact hW c hc)
        exact ⟨M', s1, (um_ag (by omega)).tr s2, s3⟩
theorem gn_i {q : Nat → Nat → Nat} (hb : Bd q) {w p : Nat → Nat} {kk : Nat} (hkk : kk ≤ 9) (hw : ∀ c, c < q 0 0 * q 0 1 → w c ≤ 1001) (hP : PR p (q 0 0 * q 0 1)) (hS : SO w p (q 0 0 * q 0 1)) : ∀ k i : Nat, ∀ M : Mem, i ≤ q 0 0 * q 0 1 → q 0 0 * q 0 1 - i < k → PM M q → (∀ c, c < i → M 14 c = 0) → WM M w (q 0 0 * q 0 1) → ∃ M', f_X12_goNight_l2 NN (nI kk) k M (nI i) = some M' ∧ AgM M M' ∧ WM M' (lf w p (min kk (q 0 0 * q 0 1))) (q 0 0 * q 0 1) := by
  have hn := hb.n30
  intro k
  induction k with
  | zero => intro i M _ h; omega
  | succ k ih =>
    intro i M h1 h2 hp hK hW
    rw [f_X12_goNight_l2, al_m hp, bnd]
    by_cases e : i = q 0 0 * q 0 1
    · rw [if_pos (by rw [e]; exact Int32.le_refl _)]
      exact gn_l hb hkk hw hP hS NN 0 M (Nat.zero_le _) (show _ < 1000 by omega) hp (fun c hc => Or.inl ⟨hK c (by omega), fun a ha => absurd ha (by omega)⟩) hW
    · have hi : i < q 0 0 * q 0 1 := by omega
      have e1 : ¬ nI (q 0 0 * q 0 1) ≤ nI i := nI_ge hi (by omega)
      simp only [↓reduceIte, e1, if_pos (inbT (show i < 30 by omega) (by decide)), nI_clamp (show i < 2 ^ 31 by omega), nmd, nI1]
      obtain ⟨M', r1, r2, r3⟩ := ih (i + 1) (up M 14 i 0) (by omega) (by omega) (hp.ag (um_ag (by omega))) (fun c hc => by
        by_cases e2 : c = i
        · subst e2; rw [up_ss]
        · rw [up_sn _ _ _ e2]; exact hK c (by omega)) (fun c hc => by rw [up_n _ _ _ (by decide)]; exact hW c hc)
      exact ⟨M', r1, (um_ag (by omega)).tr r2, r3⟩
/-- highest and lowest -/
def HL (w : Nat → Nat) (i lo hi : Nat) : Prop := (∀ c, c < i → lo ≤ w c ∧ w c ≤ hi) ∧ (∃ c, c < i ∧ w c = lo) ∧ ∃ c, c < i ∧ w c = hi
theorem an_l {M : Mem} {q : Nat → Nat → Nat} (hb : Bd q) (hp : PM M q) {w : Nat → Nat} (hw : ∀ c, c < q 0 0 * q 0 1 → w c ≤ 1001) (hW : WM M w (q 0 0 * q 0 1)) (N : Nat) : ∀ k i lo hi : Nat, i ≤ q 0 0 * q 0 1 → q 0 0 * q 0 1 - i < k → HL w i lo hi → ∃ lo' hi', f_X12_apartNow_l16 N M k (nI lo) (nI hi) (nI i) = some (nI hi' - nI lo') ∧ HL w (q 0 0 * q 0 1) lo' hi' := by
  have hn := hb.n30
  intro k
  induction k with
  | zero => intro i lo hi _ h; omega
  | succ k ih =>
    intro i lo hi h1 h2 hH
    rw [f_X12_apartNow_l16, al_m hp, bnd]
    by_cases e : i = q 0 0 * q 0 1
    · rw [if_pos (by rw [e]; exact Int32.le_refl _)]
      rw [e] at hH
      exact ⟨lo, hi, rfl, hH⟩
    · have hin : i < q 0 0 * q 0 1 := by omega
      have e1 : ¬ nI (q 0 0 * q 0 1) ≤ nI i := nI_ge hin (by omega)
      have wi := hw i hin
      obtain ⟨g1, ⟨cl, g2, g3⟩, ch, g4, g5⟩ := hH
      have wl := hw cl (by omega)
      have wh := hw ch (by omega)
      have nx : ∀ lo' hi', lo' = min lo (w i) → hi' = max hi (w i) → ∃ lo'' hi'', f_X12_apartNow_l16 N M k (nI lo') (nI hi') (nI (i + 1)) = some (nI hi'' - nI lo'') ∧ HL w (q 0 0 * q 0 1) lo'' hi'' := fun lo' hi' z1 z2 => by
        refine ih (i + 1) lo' hi' (by omega) (by omega) ⟨fun c hc => ?_, ?_, ?_⟩
        · by_cases e2 : c = i
          · subst e2; omega
          · have := g1 c (by omega)
            omega
        · by_cases e2 : lo ≤ w i
          · exact ⟨cl, by omega, by omega⟩
          · exact ⟨i, by omega, by omega⟩
        · by_cases e2 : w i ≤ hi
          · exact ⟨ch, by omega, by omega⟩
          · exact ⟨i, by omega, by omega⟩
      simp only [↓reduceIte, e1, if_pos (inbT (show i < 30 by omega) (by decide)), nI_clamp (show i < 2 ^ 31 by omega), hW i hin, nmd, nI1, nI_leI (show lo < 2 ^ 31 by omega) (show w i < 2 ^ 31 by omega), nI_leI (show w i < 2 ^ 31 by omega) (show hi < 2 ^ 31 by omega)]
      by_cases c1 : lo ≤ w i
      · rw [if_pos c1]
        by_cases c2 : w i ≤ hi
        · rw [if_pos c2]; exact nx lo hi (by omega) (by omega)
        · rw [if_neg c2]; exact nx lo (w i) (by omega) (by omega)
      · rw [if_neg c1]
        by_cases c2 : w i ≤ hi
        · rw [if_pos c2]; exact nx (w i) hi (by omega) (by omega)
        · rw [if_neg c2]; exact nx (w i) (w i) (by omega) (by omega)
theorem z0c : (0 : Int32).toNatClampNeg = 0 := by decide
theorem an_m {M : Mem} {q : Nat → Nat → Nat} (hb : Bd q) (hp : PM M q) (hpos : 0 < q 0 0 * q 0 1) {w p : Nat → Nat} (hw : ∀ c, c < q 0 0 * q 0 1 → w c ≤ 1001) (hW : WM M w (q 0 0 * q 0 1)) (hP : PR p (q 0 0 * q 0 1)) (hS : SO w p (q 0 0 * q 0 1)) : f_X12_apartNow NN M = some (nI (w (p (q 0 0 * q 0 1 - 1))) - nI (w (p 0))) := by
  have hn := hb.n30
  obtain ⟨lo, hi, r1, r2, ⟨cl, r3, r4⟩, ch, r5, r6⟩ := an_l hb hp hw hW NN NN 1 (w 0) (w 0) hpos (show _ < 1000 by omega) ⟨fun c hc => by rw [show c = 0 by omega]; exact ⟨Nat.le_refl _, Nat.le_refl _⟩, ⟨0, by omega, rfl⟩, 0, by omega, rfl⟩
  unfold f_X12_apartNow
  rw [z0c, hW 0 hpos, nmx, nmx]
  have r1' : f_X12_apartNow_l16 NN M NN (nI (w 0)) (nI (w 0)) 1 = some (nI hi - nI lo) := r1
  rw [r1']
  have so : ∀ i j, i ≤ j → j < q 0 0 * q 0 1 → w (p i) ≤ w (p j) := fun i j h1 h2 => by
    by_cases e : i = j
    · subst e; exact Nat.le_refl _
    · have l1 := hS i j (by omega) h2
      have l2 := hP.1 i (by omega)
      have l3 := hP.1 j h2
      unfold KK at l1
      omega
  obtain ⟨il, h1, h2⟩ := PR_sur hP cl r3
  obtain ⟨ih, h3, h4⟩ := PR_sur hP ch r5
  have a1 := so 0 il (by omega) h1
  have a2 := so ih (q 0 0 * q 0 1 - 1) (by omega) (by omega)
  have a3 := r2 (p 0) (hP.1 0 hpos)
  have a4 := r2 (p (q 0 0 * q 0 1 - 1)) (hP.1 _ (by omega))
  rw [h2] at a1
  rw [h4] at a2
  rw [show lo = w (p 0) by omega, show hi = w (p (q 0 0 * q 0 1 - 1)) by omega]
theorem kd {M : Mem} {w p : Nat → Nat} {n a : Nat} (hn : n ≤ 30) (hw : ∀ c, c < n → w c ≤ 1001) (hP : PR p n) (hK : KM M w p n) (ha : a < n) : M 37 a / 32 = nI (w (p a)) := by
  have l1 := hP.1 a ha
  have l2 := KK_le hn hw l1
  rw [hK a ha]
  have y : nI (KK w (p a)) / 32 = nI (KK w (p a) / 32) := pk_div (d := 32) (by omega) (by decide) (by decide)
  rw [y]
  congr 1
  unfold KK; omega
theorem nl_l {q : Nat → Nat → Nat} (hb : Bd q) (hpos : 0 < q 0 0 * q 0 1) {kk v : Nat} (hkk : kk ≤ 9) : ∀ k j : Nat, ∀ Mc Mm : Mem, ∀ w p : Nat → Nat, j ≤ 501 → 501 - j < k → PC Mc q → PM Mm q → PR p (q 0 0 * q 0 1) → KM Mc w p (q 0 0 * q 0 1) → WM Mm w (q 0 0 * q 0 1) → (∀ c, c < q 0 0 * q 0 1 → w c ≤ 500 + j) → ∃ r Mc' Mm', f_X2_nightsTill_l59 NN (nI v) (nI (q 0 0 * q 0 1)) (nI (min kk (q 0 0 * q 0 1))) k Mc (nI j) = some (r, Mc') ∧ f_X12_nights_l78 NN (nI kk) (nI v) k Mm (nI j) = some (r, Mm') ∧ AgC Mc Mc' ∧ AgM Mm Mm' := by
  have hn := hb.n30
  intro k
  induction k with
  | zero => intro j Mc Mm w p _ h; omega
  | succ k ih =>
    intro j Mc Mm w p h1 h2 hc hp hP hK hW hw
    have hw1 : ∀ c, c < q 0 0 * q 0 1 → w c ≤ 1001 := fun c h => by have := hw c h; omega
    rw [f_X2_nightsTill_l59, f_X12_nights_l78]
    by_cases e : j = 501
    · subst e
      rw [if_pos (by decide), if_pos (by decide)]
      exact ⟨_, _, _, rfl, rfl, AgC.rf, AgM.rf⟩
    · have e1 : ¬ (500 : Int32) < nI j := nI_nlt (a := 500) (b := j) (by omega) (by omega)
      rw [if_neg e1, if_neg e1]
      obtain ⟨M1, p1, a1, a2, a3, a4, a5⟩ := so_l hn hw1 NN 1 Mc p (Nat.le_refl _) hpos (show _ < 1000 by omega) hP hK (fun a b g1 g2 => by omega)
      have a1' : f_X2_putInOrder NN Mc (nI (q 0 0 * q 0 1)) = some M1 := a1
      rw [a1', bnd, an_m hb hp hpos hw1 hW a3 a5, bnd, s1 hpos, if_pos (inbT (show q 0 0 * q 0 1 - 1 < 30 by omega) (by decide)), nI_clamp (show q 0 0 * q 0 1 - 1 < 2 ^ 31 by omega), z0c, kd hn hw1 a3 a4 (show q 0 0 * q 0 1 - 1 < q 0 0 * q 0 1 by omega), kd hn hw1 a3 a4 hpos]
      by_cases c1 : nI v < nI (w (p1 (q 0 0 * q 0 1 - 1))) - nI (w (p1 0))
      · rw [if_pos c1, if_pos c1]
        obtain ⟨M2, b1, b2, b3⟩ := nt_l hn (show min kk (q 0 0 * q 0 1) ≤ q 0 0 * q 0 1 by omega) (w := w) (p := p1) (fun M11 => f_X2_nightsTill_l59 NN (nI v) (nI (q 0 0 * q 0 1)) (nI (min kk (q 0 0 * q 0 1))) k M11 (nI j + 1)) NN NN 0 M1 (Nat.zero_le _) (show _ < 1000 by omega) (fun a ha => by rw [if_neg (by omega), Nat.add_zero]; exact a4 a ha)
        have b1' : f_X2_nightsTill_l105 (fun M11 => f_X2_nightsTill_l59 NN (nI v) (nI (q 0 0 * q 0 1)) (nI (min kk (q 0 0 * q 0 1))) k M11 (nI j + 1)) NN (nI (min kk (q 0 0 * q 0 1))) NN M1 0 = f_X2_nightsTill_l59 NN (nI v) (nI (q 0 0 * q 0 1)) (nI (min kk (q 0 0 * q 0 1))) k M2 (nI j + 1) := b1
        obtain ⟨M3, d1, d2, d3⟩ := gn_i hb hkk hw1 a3 a5 NN 0 Mm (Nat.zero_le _) (show _ < 1000 by omega) hp (fun c h => absurd h (by omega)) hW
        have d1' : f_X12_goNight NN Mm (nI kk) = some M3 := d1
        rw [b1', d1', bnd, nI1]
        obtain ⟨r, Mc', Mm', s1, s2, s3, s4⟩ := ih (j + 1) M2 M3 (lf w p1 (min kk (q 0 0 * q 0 1))) p1 (by omega) (by omega) ((hc.ag a2).ag b2) (hp.ag d2) a3 (fun a ha => by rw [b3 a ha, lf_KK a3 (by omega) ha]) d3 (lf_le a3 hw (by omega))
        exact ⟨r, Mc', Mm', s1, s2, (a2.tr b2).tr s3, d2.tr s4⟩
      · rw [if_neg c1, if_neg c1]
        exact ⟨_, _, _, rfl, rfl, a2, AgM.rf⟩
theorem ni_c {q : Nat → Nat → Nat} (hb : Bd q) {m : Nat} (hm : m < 12) (x3 x5 : Int32) : ∀ k i : Nat, ∀ M : Mem, i ≤ q 0 0 * q 0 1 → q 0 0 * q 0 1 - i < k → PC M q → (∀ c, c < i → M 37 c = nI (KK (hF q m) c)) → ∃ M', f_X2_nightsTill_l20 NN (nI m) x3 (nI (q 0 0 * q 0 1)) x5 k M (nI i) = f_X2_nightsTill_l59 NN x3 (nI (q 0 0 * q 0 1)) x5 NN M' 0 ∧ AgC M M' ∧ ∀ c, c < q 0 0 * q 0 1 → M' 37 c = nI (KK (hF q m) c) := by
  have hn := hb.n30
  intro k
  induction k with
  | zero => intro i M _ h; omega
  | succ k ih =>
    intro i M h1 h2 hc hK
    rw [f_X2_nightsTill_l20]
    by_cases e : i = q 0 0 * q 0 1
    · rw [if_pos (by rw [e]; exact Int32.le_refl _)]
      exact ⟨M, rfl, AgC.rf, fun c hcn => hK c (by omega)⟩
    · have hi : i < q 0 0 * q 0 1 := by omega
      have e1 : ¬ nI (q 0 0 * q 0 1) ≤ nI i := nI_ge hi (by omega)
      have y : nI (hN q i m) * 32 + nI i = nI (KK (hF q m) i) := by
        have y1 : nI (hN q i m) * 32 = nI (hN q i m * 32) := pk_mul _ 32
        rw [y1, nI_add]
        congr 1
        show hN q i m * 32 + i = 32 * hN q i m + i
        omega
      simp only [↓reduceIte, e1, hO_c hb hc hi hm, bnd, if_pos (inbT (show i < 30 by omega) (by decide)), nI_clamp (show i < 2 ^ 31 by omega), y, nmd, nI1]
      obtain ⟨M', r1, r2, r3⟩ := ih (i + 1) (up M 37 i (nI (KK (hF q m) i))) (by omega) (by omega) (hc.ag (u_ag (by omega))) (fun c hc => by
        by_cases e2 : c = i
        · subst e2; rw [up_ss]
        · rw [up_sn _ _ _ e2]; exact hK c (by omega))
      exact ⟨M', r1, (u_ag (by omega)).tr r2, r3⟩
theorem ni_m {q : Nat → Nat → Nat} (hb : Bd q) {m : Nat} (hm : m < 12) (x2 x3 : Int32) : ∀ k i : Nat, ∀ M : Mem, i ≤ q 0 0 * q 0 1 → q 0 0 * q 0 1 - i < k → PM M q → (∀ c, c < i → M 13 c = nI (hF q m c)) → ∃ M', f_X12_nights_l46 NN (nI m) x2 x3 k M (nI i) = f_X12_nights_l78 NN x2 x3 NN M' 0 ∧ AgM M M' ∧ WM M' (hF q m) (q 0 0 * q 0 1) := by
  have hn := hb.n30
  intro k
  induction k with
  | zero => intro i M _ h; omega
  | succ k ih =>
    intro i M h1 h2 hp hW
    rw [f_X12_nights_l46, al_m hp, bnd]
    by_cases e : i = q 0 0 * q 0 1
    · rw [if_pos (by rw [e]; exact Int32.le_refl _)]
      exact ⟨M, rfl, AgM.rf, fun c hcn => hW c (by omega)⟩
    · have hi : i < q 0 0 * q 0 1 := by omega
      have e1 : ¬ nI (q 0 0 * q 0 1) ≤ nI i := nI_ge hi (by omega)
      simp only [↓reduceIte, e1, hO_m hb hp hi hm, bnd, if_pos (inbT (show i < 30 by omega) (by decide)), nI_clamp (show i < 2 ^ 31 by omega), nmd, nI1]
      obtain ⟨M', r1, r2, r3⟩ := ih (i + 1) (up M 13 i (nI (hN q i m))) (by omega) (by omega) (hp.ag (um_ag (by omega))) (fun c hc => by
        by_cases e2 : c = i
        · subst e2; rw [up_ss]; rfl
        · rw [up_sn _ _ _ e2]; exact hW c (by omega))
      exact ⟨M', r1, (um_ag (by omega)).tr r2, r3⟩
theorem w91 (x : Int32) : (∃ v : Nat, v ≤ 9 ∧ x = nI v ∧ f_X11_isWithin x 1 9 = some 1 ∧ f_X12_within x 1 9 = some 1) ∨ (f_X11_isWithin x 1 9 = some 0 ∧ f_X12_within x 1 9 = some 0) := by
  rcases wi_cs x 1 9 with ⟨h1, h2, h3, h4⟩ | h
  · left
    have h5 : ¬ x < 0 := fun z => h3 (by
      rw [Int32.lt_iff_toInt_lt] at z ⊢
      have e0 : (0 : Int32).toInt = 0 := by decide
      have e1 : (1 : Int32).toInt = 1 := by decide
      omega)
    obtain ⟨j, hj, e⟩ := nI_of2 (n := 9) (by decide) h5 (nlt h4)
    exact ⟨j, hj, e, h1, h2⟩
  · exact Or.inr h
theorem sim_nights {Mc Mm : Mem} (h : Sim Mc Mm) (x1 : Int32) (x2 : Int32) (x3 : Int32) : ∃ (r : Int32) (Mc' : Mem) (Mm' : Mem), f_X11_nights NN Mc x1 x2 x3 = some (r, Mc') ∧ f_X12_nights NN Mm x1 x2 x3 = some (r, Mm') ∧ Sim Mc' Mm' := by
  have hS := h
  obtain ⟨⟨q, hb, h9, hc, hm⟩, -⟩ := h
  have hn := hb.n30
  have n2 : ¬ (-2 : Int32) = 0 := by decide
  have n1 : ¬ (-1 : Int32) = 0 := by decide
  have n3 : ¬ (-3 : Int32) = 0 := by decide
  unfold f_X11_nights f_X12_nights
  rcases rf_cs hb hc hm x1 with ⟨m, hm12, rfl, hpos, r1, r2, r3, r4, r5⟩ | ⟨r1, r2, r3, r4⟩ | ⟨r1, r2, r3⟩
  · rcases w91 x2 with ⟨kk, hkk, rfl, g1, g2⟩ | ⟨g1, g2⟩
    · rcases ap_cs x3 with ⟨v, hv, rfl, k1, k2⟩ | ⟨k1, k2⟩
      · obtain ⟨M1, a1, a2, a3⟩ := ni_c hb hm12 (nI v) (nI (min kk (q 0 0 * q 0 1))) NN 0 Mc (Nat.zero_le _) (show _ < 1000 by omega) hc (fun c h => absurd h (by omega))
        obtain ⟨M2, b1, b2, b3⟩ := ni_m hb hm12 (nI kk) (nI v) NN 0 Mm (Nat.zero_le _) (show _ < 1000 by omega) hm (fun c h => absurd h (by omega))
        obtain ⟨r, M3, M4, s1, s2, s3, s4⟩ := nl_l hb hpos (v := v) hkk NN 0 M1 M2 (hF q m) (fun i => i) (by decide) (by decide) (hc.ag a2) (hm.ag b2) ⟨fun i hi => hi, fun i j g1 g2 => Nat.ne_of_lt g1⟩ a3 b3 (fun c hcn => hN_le hb hcn hm12)
        have ca : f_X2_nightsTill NN Mc (nI m) (nI kk) (nI v) = some (r, M3) := by
          unfold f_X2_nightsTill
          rw [st_c hc, bnd, nmx, mnI (show kk < 2147483648 by omega) (show q 0 0 * q 0 1 < 2147483648 by omega)]
          exact a1.trans s1
        have cb : f_X12_nights_l46 NN (nI m) (nI kk) (nI v) NN Mm 0 = some (r, M4) := b1.trans s2
        simp only [↓reduceIte, g1, g2, k1, k2, r1, r3, r4, r5, bnd, n10, ca, cb]
        exact ⟨_, _, _, rfl, rfl, hS.ag (a2.tr s3) (b2.tr s4)⟩
      · simp only [↓reduceIte, g1, g2, k1, k2, r2, r3, bnd, n10, n2]
        exact ⟨_, _, _, rfl, rfl, hS⟩
    · simp only [↓reduceIte, g1, g2, r2, r3, bnd, n10, n2]
      exact ⟨_, _, _, rfl, rfl, hS⟩
  · rcases w91 x2 with ⟨kk, hkk, rfl, g1, g2⟩ | ⟨g1, g2⟩
    · rcases ap_cs x3 with ⟨v, hv, rfl, k1, k2⟩ | ⟨k1, k2⟩
      · simp only [↓reduceIte, g1, g2, k1, k2, r1, r3, r4, bnd, n10, n3]
        exact ⟨_, _, _, rfl, rfl, hS⟩
      · simp only [↓reduceIte, g1, g2, k1, k2, r2, r3, bnd, n10, n2]
        exact ⟨_, _, _, rfl, rfl, hS⟩
    · simp only [↓reduceIte, g1, g2, r2, r3, bnd, n10, n2]
      exact ⟨_, _, _, rfl, rfl, hS⟩
  · rcases w91 x2 with ⟨kk, hkk, rfl, g1, g2⟩ | ⟨g1, g2⟩
    · rcases ap_cs x3 with ⟨v, hv, rfl, k1, k2⟩ | ⟨k1, k2⟩
      · simp only [↓reduceIte, g1, k1, r1, r3, bnd, n10, n1]
        exact ⟨_, _, _, rfl, rfl, hS⟩
      · simp only [↓reduceIte, g1, k1, r2, r3, bnd, n10, n1]
        exact ⟨_, _, _, rfl, rfl, hS⟩
    · simp only [↓reduceIte, g1, r2, r3, bnd, n1]
      exact ⟨_, _, _, rfl, rfl, hS⟩
