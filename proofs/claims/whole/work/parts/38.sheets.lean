theorem PC.cells {M M' : Mem} {q : Nat → Nat → Nat} (h : PC M q) (e : ∀ i, (i < 9 ∨ 16 < i) → M' i = M i) : PC M' q := by
  unfold PC
  rw [e 2 (Or.inl (by decide)), e 21 (Or.inr (by decide)), e 22 (Or.inr (by decide)), e 23 (Or.inr (by decide)), e 24 (Or.inr (by decide)), e 25 (Or.inr (by decide)), e 26 (Or.inr (by decide)), e 27 (Or.inr (by decide))]
  exact h
theorem PM.cells {M M' : Mem} {q : Nat → Nat → Nat} (h : PM M q) (e : ∀ i, (i = 0 ∨ 3 < i) → M' i = M i) : PM M' q := by
  unfold PM
  rw [e 0 (Or.inl rfl), e 4 (Or.inr (by decide)), e 5 (Or.inr (by decide)), e 6 (Or.inr (by decide)), e 7 (Or.inr (by decide)), e 8 (Or.inr (by decide))]
  exact h
theorem Sim.sheet {Mc Mm Mc' Mm' : Mem} (h : Sim Mc Mm) (ec : ∀ i, (i < 9 ∨ 16 < i) → Mc' i = Mc i) (em : ∀ i, (i = 0 ∨ 3 < i) → Mm' i = Mm i) (hs : SH Mc' Mm') : Sim Mc' Mm' := by
  obtain ⟨⟨q, hb, h9, hc, hm⟩, hf, ht, hr, -⟩ := h
  refine ⟨⟨q, hb, h9, hc.cells ec, hm.cells em⟩, ?_, ?_, ?_, hs⟩
  · rw [ec 0 (Or.inl (by decide)), em 0 (Or.inl rfl)]; exact hf
  · rw [ec 1 (Or.inl (by decide)), em 0 (Or.inl rfl)]; exact ht
  · unfold RS
    rw [ec 7 (Or.inl (by decide)), ec 38 (Or.inr (by decide)), ec 39 (Or.inr (by decide)), ec 40 (Or.inr (by decide)), em 0 (Or.inl rfl), em 15 (Or.inr (by decide)), em 16 (Or.inr (by decide)), em 17 (Or.inr (by decide))]
    exact hr
theorem inb4 {k : Nat} (h : k < 4) : inb (nI k) 4 := inbT h (by decide)
theorem cl4 {k : Nat} (h : k < 4) : (nI k).toNatClampNeg = k := nI_clamp (by omega)
theorem n_m1 : ¬ (-1 : Int32) = 0 := by decide
theorem sim_lose {Mc Mm : Mem} (h : Sim Mc Mm) (x1 : Int32) : ∃ (r : Int32) (Mc' : Mem) (Mm' : Mem), f_X11_lose Mc x1 = some (r, Mc') ∧ f_X12_lose Mm x1 = some (r, Mm') ∧ Sim Mc' Mm' := by
  unfold f_X11_lose f_X12_lose
  rcases sh_cs x1 with ⟨k, hk, rfl, e1, e2⟩ | ⟨e1, e2⟩
  · have key : Sim (up (up Mc (9 + k) 1 (-1)) (9 + k) 2 0) (up Mm 1 k (-9)) := by
      refine h.sheet (fun i hi => ?_) (fun i hi => up_n _ _ _ (by omega)) (fun i hi => ?_)
      · rw [up_n _ _ _ (by omega), up_n _ _ _ (by omega)]
      · by_cases e : i = k
        · subst e
          exact Or.inl ⟨by rw [up_sn _ _ _ (by decide), up_ss], up_ss _ _ _ _⟩
        · have h1 := h.2.2.2.2 i hi
          unfold S1 at h1 ⊢
          rw [up_n _ _ _ (show 9 + i ≠ 9 + k by omega), up_n _ _ _ (show 9 + i ≠ 9 + k by omega), up_n _ _ _ (show 13 + i ≠ 9 + k by omega), up_n _ _ _ (show 13 + i ≠ 9 + k by omega), up_sn _ _ _ e, up_n _ _ _ (show 2 ≠ 1 by decide), up_n _ _ _ (show 3 ≠ 1 by decide)]
          exact h1
    simp only [↓reduceIte, e1, e2, bnd, n10, if_pos (inb4 hk), cl4 hk, f_X6_clear, f_X6_isNothing, nmd]
    rcases h.2.2.2.2 k hk with ⟨a1, a2⟩ | ⟨so, n, s1, s2, s3, s4, s5, s6, s7⟩
    · simp only [↓reduceIte, a1, a2, bnd, n10]
      exact ⟨_, _, _, rfl, rfl, key⟩
    · have c1 : ¬ nI so = (-1) := ne1 (by omega)
      have c2 : ¬ nI so = (-9) := ne9 (by omega)
      simp only [↓reduceIte, s3, s4, c1, c2, bnd, n10]
      exact ⟨_, _, _, rfl, rfl, key⟩
  · rw [e1, e2]; exact ⟨_, _, _, rfl, rfl, h⟩
/-- a new sheet -/
theorem up_upA (M : Mem) (k j : Nat) (v : Int32) (f : Nat → Int32) : up (upA M k f) k j v = upA M k (upd f j v) := by
  unfold up
  rw [upA_upA, upA_s]
theorem rn_l {N k so v : Nat} (hv : v ≤ 80) (M : Mem) (f : Nat → Int32) : ∀ j i : Nat, i ≤ v → v - i < j → f_X6_renew_l2 N k (nI so) (nI v) j (upA M (13 + k) (fl (fun _ => 0) f i)) (nI i) = some (up (up (upA M (13 + k) (fl (fun _ => 0) f v)) (9 + k) 1 (nI so)) (9 + k) 2 (nI v)) := by
  intro j
  induction j with
  | zero => intro i _ h; omega
  | succ j ih =>
    intro i h1 h2
    rw [f_X6_renew_l2]
    by_cases e : i = v
    · subst e
      simp only [↓reduceIte, if_pos (nI_le (Nat.le_refl i) (show i < 2 ^ 31 by omega)), nmd]
    · have e1 : ¬ nI v ≤ nI i := nI_ge (by omega) (by omega)
      simp only [↓reduceIte, e1, if_pos (inbT (show i < 80 by omega) (by decide)), nmd, nI_clamp (show i < 2 ^ 31 by omega), up_upA, nI1]
      rw [show upd (fl (fun _ => 0) f i) i 0 = fl (fun _ => 0) f (i + 1) from fl_s _ _ _]
      exact ih (i + 1) (by omega) (by omega)
/-- a stretch of a row anew -/
def sg (f g : Nat → Int32) (s n : Nat) : Nat → Int32 := fun p => if s ≤ p ∧ p < s + n then f p else g p
theorem sg_0 (f g : Nat → Int32) (s : Nat) : sg f g s 0 = g := by funext p; exact if_neg (by omega)
theorem sg_s (f g : Nat → Int32) (s n : Nat) : upd (sg f g s n) (s + n) (f (s + n)) = sg f g s (n + 1) := by
  funext p
  unfold upd sg
  by_cases h : p = s + n
  · subst h; rw [if_pos rfl, if_pos (by omega)]
  · rw [if_neg h]
    by_cases h2 : s ≤ p ∧ p < s + n
    · rw [if_pos h2, if_pos (by omega)]
    · rw [if_neg h2, if_neg (by omega)]
theorem sg_in {f g : Nat → Int32} {s n p : Nat} (h : s ≤ p) (h2 : p < s + n) : sg f g s n p = f p := if_pos ⟨h, h2⟩
theorem sg_out {f g : Nat → Int32} {s n p : Nat} (h : ¬ (s ≤ p ∧ p < s + n)) : sg f g s n p = g p := if_neg h
theorem ix80 (k i : Nat) : (80 * nI k) + nI i = nI (80 * k + i) := by
  show nI 80 * nI k + nI i = _
  rw [pk_mul, nI_add]
theorem rm_l {N k : Nat} (hk : k < 4) (M : Mem) (f : Nat → Int32) : ∀ j i : Nat, i ≤ 80 → 80 - i < j → f_X12_sheet_l57 N (nI k) j (upA M 3 (sg (fun _ => 0) f (80 * k) i)) (nI i) = some (1, upA M 3 (sg (fun _ => 0) f (80 * k) 80)) := by
  intro j
  induction j with
  | zero => intro i _ h; omega
  | succ j ih =>
    intro i h1 h2
    rw [f_X12_sheet_l57]
    by_cases e : i = 80
    · subst e
      simp only [↓reduceIte, show (80 : Int32) ≤ nI 80 by decide]
    · have e1 : ¬ (80 : Int32) ≤ nI i := nI_ge (a := i) (b := 80) (by omega) (by omega)
      simp only [↓reduceIte, e1, ix80, if_pos (inbT (show 80 * k + i < 320 by omega) (by decide)), nmd, nI_clamp (show 80 * k + i < 2 ^ 31 by omega), up_upA, nI1]
      rw [show upd (sg (fun _ => 0) f (80 * k) i) (80 * k + i) 0 = sg (fun _ => 0) f (80 * k) (i + 1) from sg_s _ _ _ _]
      exact ih (i + 1) (by omega) (by omega)
theorem sim_sheet {Mc Mm : Mem} (h : Sim Mc Mm) (x1 : Int32) (x2 : Int32) (x3 : Int32) : ∃ (r : Int32) (Mc' : Mem) (Mm' : Mem), f_X11_sheet NN Mc x1 x2 x3 = some (r, Mc') ∧ f_X12_sheet NN Mm x1 x2 x3 = some (r, Mm') ∧ Sim Mc' Mm' := by
  unfold f_X11_sheet f_X12_sheet
  rw [nmd, nmd]
  have h := h.fault 0
  generalize up Mc 0 8 0 = Mc at h ⊢
  generalize up Mm 0 0 0 = Mm at h ⊢
  rcases sh_cs x1 with ⟨k, hk, rfl, e1, e2⟩ | ⟨e1, e2⟩
  · simp only [↓reduceIte, e1, e2, bnd, n10]
    rcases so_cs x2 with ⟨so, hso, rfl, d1, d2⟩ | ⟨d1, d2⟩
    · simp only [↓reduceIte, d1, d2, bnd, n10]
      by_cases c1 : x3 ≤ 80
      · simp only [↓reduceIte, c1]
        by_cases c2 : 0 ≤ x3
        · simp only [↓reduceIte, c2]
          have c3 : ¬ x3 < 0 := fun z => by
            have a1 := Int32.lt_iff_toInt_lt.mp z
            have a2 := Int32.le_iff_toInt_le.mp c2
            omega
          obtain ⟨v, hv, rfl⟩ := nI_of2 (M := 80) (n := 80) (by decide) c3 c1
          have r1 : f_X6_renew NN k Mc (nI so) (nI v) = some (up (up (upA Mc (13 + k) (fl (fun _ => 0) (Mc (13 + k)) v)) (9 + k) 1 (nI so)) (9 + k) 2 (nI v)) := by
            have := rn_l (N := NN) (k := k) (so := so) hv Mc (Mc (13 + k)) NN 0 (Nat.zero_le _) (show v - 0 < 1000 by omega)
            rw [fl_0, upA_id] at this
            exact this
          have r2 : f_X12_sheet_l57 NN (nI k) NN (up (up Mm 1 k (nI so)) 2 k (nI v)) 0 = some (1, upA (up (up Mm 1 k (nI so)) 2 k (nI v)) 3 (sg (fun _ => 0) ((up (up Mm 1 k (nI so)) 2 k (nI v)) 3) (80 * k) 80)) := by
            have := rm_l (N := NN) hk (up (up Mm 1 k (nI so)) 2 k (nI v)) ((up (up Mm 1 k (nI so)) 2 k (nI v)) 3) NN 0 (Nat.zero_le _) (by decide)
            rw [sg_0, upA_id] at this
            exact this
          simp only [if_pos (inb4 hk), cl4 hk, r1, bnd, nmd, r2]
          refine ⟨_, _, _, rfl, rfl, h.sheet (fun i hi => ?_) (fun i hi => ?_) (fun i hi => ?_)⟩
          · rw [up_n _ _ _ (by omega), up_n _ _ _ (by omega), upA_n _ _ (by omega)]
          · rw [upA_n _ _ (by omega), up_n _ _ _ (by omega), up_n _ _ _ (by omega)]
          · by_cases e : i = k
            · subst e
              refine Or.inr ⟨so, v, by omega, hv, ?_, ?_, ?_, ?_, fun p hp => ?_⟩
              · rw [up_sn _ _ _ (by decide), up_ss]
              · rw [upA_n _ _ (by decide), up_n _ _ _ (by decide), up_ss]
              · rw [up_ss]
              · rw [upA_n _ _ (by decide), up_ss]
              · rw [up_n _ _ _ (by omega), up_n _ _ _ (by omega), upA_s, upA_s, fl_in hp, sg_in (by omega) (by omega)]
            · have h1 := h.2.2.2.2 i hi
              unfold S1 at h1 ⊢
              rw [up_n _ _ _ (show 9 + i ≠ 9 + k by omega), up_n _ _ _ (show 9 + i ≠ 9 + k by omega), upA_n _ _ (show 9 + i ≠ 13 + k by omega), up_n _ _ _ (show 13 + i ≠ 9 + k by omega), up_n _ _ _ (show 13 + i ≠ 9 + k by omega), upA_n _ _ (show 13 + i ≠ 13 + k by omega), upA_n _ _ (show 1 ≠ 3 by decide), up_n _ _ _ (show 1 ≠ 2 by decide), up_sn _ _ _ e, upA_n _ _ (show 2 ≠ 3 by decide), up_sn _ _ _ e, up_n _ _ _ (show 2 ≠ 1 by decide), upA_s]
              rcases h1 with h1 | ⟨so2, n2, t1, t2, t3, t4, t5, t6, t7⟩
              · exact Or.inl h1
              · exact Or.inr ⟨so2, n2, t1, t2, t3, t4, t5, t6, fun p hp => by rw [sg_out (by omega)]; exact t7 p hp⟩
        · simp only [↓reduceIte, c2, bnd, f_X11_failed, f_X12_fails, nmd]
          exact ⟨_, _, _, rfl, rfl, h.fault 4⟩
      · simp only [↓reduceIte, c1]
        exact ⟨_, _, _, rfl, rfl, h⟩
    · rw [d1, d2]; exact ⟨_, _, _, rfl, rfl, h⟩
  · rw [e1, e2]; exact ⟨_, _, _, rfl, rfl, h⟩
/-- a place of a sheet -/
theorem hc_cs {Mc Mm : Mem} {k n : Nat} (hn : n ≤ 80) (s5 : Mc (9 + k) 2 = nI n) (s6 : Mm 2 k = nI n) (x : Int32) : (∃ i : Nat, i < n ∧ x = nI i ∧ f_X6_hasCell k Mc x = some 1 ∧ f_X12_within x 0 (Mm 2 k - 1) = some 1) ∨ (f_X6_hasCell k Mc x = some 0 ∧ f_X12_within x 0 (Mm 2 k - 1) = some 0) := by
  unfold f_X6_hasCell f_X12_within
  rw [s5, s6]
  have e0 : (nI n - 1).toInt = (n : Int) - 1 := subT (a := n) (b := 1) (by omega) (by decide)
  by_cases c0 : x < 0
  · right; simp only [↓reduceIte, c0]; exact ⟨trivial, trivial⟩
  · rcases pk_ix x (n := n) (by omega) with h | h | ⟨j, hj, rfl⟩
    · exact absurd h c0
    · right
      have c1 : nI n - 1 < x := by
        rw [Int32.lt_iff_toInt_lt, e0]
        have := Int32.le_iff_toInt_le.mp h
        rw [nI_toInt (by omega)] at this
        omega
      simp only [↓reduceIte, c0, h, c1]; exact ⟨trivial, trivial⟩
    · left
      have c1 : ¬ nI n ≤ nI j := nI_ge hj (by omega)
      have c2 : ¬ nI n - 1 < nI j := fun z => by
        have := Int32.lt_iff_toInt_lt.mp z
        rw [e0, nI_toInt (by omega)] at this
        omega
      exact ⟨j, hj, rfl, by simp only [↓reduceIte, c0, c1], by simp only [↓reduceIte, c0, c2]⟩
theorem put_key {Mc Mm : Mem} (h : Sim Mc Mm) {k so n i : Nat} (hk : k < 4) (s1 : so ≤ 2) (s2 : n ≤ 80) (s3 : Mc (9 + k) 1 = nI so) (s4 : Mm 1 k = nI so) (s5 : Mc (9 + k) 2 = nI n) (s6 : Mm 2 k = nI n) (s7 : ∀ i, i < n → Mc (13 + k) i = Mm 3 (80 * k + i)) (hi : i < n) (v : Int32) : Sim (up Mc (13 + k) i v) (up Mm 3 (80 * k + i) v) := by
  refine h.sheet (fun j hj => up_n _ _ _ (by omega)) (fun j hj => up_n _ _ _ (by omega)) (fun j hj => ?_)
  by_cases e : j = k
  · subst e
    refine Or.inr ⟨so, n, s1, s2, ?_, ?_, ?_, ?_, fun p hp => ?_⟩
    · rw [up_n _ _ _ (by omega)]; exact s3
    · exact s4
    · rw [up_n _ _ _ (by omega)]; exact s5
    · exact s6
    · by_cases e2 : p = i
      · subst e2; rw [up_ss, up_ss]
      · rw [up_sn _ _ _ e2, up_sn _ _ _ (by omega)]; exact s7 p hp
  · have h1 := h.2.2.2.2 j hj
    unfold S1 at h1 ⊢
    rw [up_n _ _ _ (show 9 + j ≠ 13 + k by omega), up_n _ _ _ (show 13 + j ≠ 13 + k by omega), up_n _ _ _ (show 1 ≠ 3 by decide), up_n _ _ _ (show 2 ≠ 3 by decide)]
    rcases h1 with h1 | ⟨so2, n2, t1, t2, t3, t4, t5, t6, t7⟩
    · exact Or.inl h1
    · exact Or.inr ⟨so2, n2, t1, t2, t3, t4, t5, t6, fun p hp => by rw [up_sn _ _ _ (by omega)]; exact t7 p hp⟩
theorem sim_put {Mc Mm : Mem} (h : Sim Mc Mm) (x1 : Int32) (x2 : Int32) (x3 : Int32) : ∃ (r : Int32) (Mc' : Mem) (Mm' : Mem), f_X11_put Mc x1 x2 x3 = some (r, Mc') ∧ f_X12_put Mm x1 x2 x3 = some (r, Mm') ∧ Sim Mc' Mm' := by
  unfold f_X11_put f_X12_put
  rw [nmd, nmd]
  have h := h.fault 0
  generalize up Mc 0 8 0 = Mc at h ⊢
  generalize up Mm 0 0 0 = Mm at h ⊢
  rcases sh_cs x1 with ⟨k, hk, rfl, e1, e2⟩ | ⟨e1, e2⟩
  · simp only [↓reduceIte, e1, e2, bnd, n10, if_pos (inb4 hk), cl4 hk, f_X6_isNothing, f_X11_failed, f_X12_fails, nmd]
    rcases h.2.2.2.2 k hk with ⟨a1, a2⟩ | ⟨so, n, s1, s2, s3, s4, s5, s6, s7⟩
    · simp only [↓reduceIte, a1, a2, bnd, n10]
      exact ⟨_, _, _, rfl, rfl, h.fault 1⟩
    · have c1 : ¬ nI so = (-1) := ne1 (by omega)
      have c2 : ¬ nI so = (-9) := ne9 (by omega)
      simp only [↓reduceIte, s3, s4, c1, c2, bnd]
      rcases hc_cs s2 s5 s6 x2 with ⟨i, hi, rfl, g1, g2⟩ | ⟨g1, g2⟩
      · have key := fun v => put_key h hk s1 s2 s3 s4 s5 s6 s7 hi v
        have cl : (nI i).toNatClampNeg = i := nI_clamp (by omega)
        have cl2 : (nI (80 * k + i)).toNatClampNeg = 80 * k + i := nI_clamp (by omega)
        simp only [↓reduceIte, g1, g2, bnd, n10, f_X6_write, s3, nmd, if_pos (inbT (show i < 80 by omega) (by decide)), cl, ix80, if_pos (inbT (show 80 * k + i < 320 by omega) (by decide)), cl2]
        rcases (show so = 0 ∨ so = 1 ∨ so = 2 by omega) with rfl | rfl | rfl
        · simp only [↓reduceIte, show nI 0 = 0 from rfl, bnd]
          exact ⟨_, _, _, rfl, rfl, key _⟩
        · simp only [↓reduceIte, show ¬ nI 1 = 0 by decide, show nI 1 = 1 from rfl, bnd, n10]
          exact ⟨_, _, _, rfl, rfl, key _⟩
        · simp only [↓reduceIte, show ¬ nI 2 = 0 by decide, show ¬ nI 2 = 1 by decide, bnd]
          exact ⟨_, _, _, rfl, rfl, key _⟩
      · simp only [↓reduceIte, g1, g2, bnd]
        exact ⟨_, _, _, rfl, rfl, h.fault 3⟩
  · rw [e1, e2]; exact ⟨_, _, _, rfl, rfl, h⟩
theorem sim_cell {Mc Mm : Mem} (h : Sim Mc Mm) (x1 : Int32) (x2 : Int32) (x3 : Int32) : ∃ (r : Int64) (Mc' : Mem) (Mm' : Mem), f_X11_cell Mc x1 x2 x3 = some (r, Mc') ∧ f_X12_cell Mm x1 x2 x3 = some (r, Mm') ∧ Sim Mc' Mm' := by
  unfold f_X11_cell f_X12_cell
  rw [nmd, nmd]
  have h := h.fault 0
  have hz : (up Mc 0 8 0) 0 8 = 0 := up_ss _ _ _ _
  generalize up Mc 0 8 0 = Mc at h hz ⊢
  generalize up Mm 0 0 0 = Mm at h ⊢
  rcases sh_cs x1 with ⟨k, hk, rfl, e1, e2⟩ | ⟨e1, e2⟩
  · simp only [↓reduceIte, e1, e2, bnd, n10]
    rcases so_cs x3 with ⟨w, hw, rfl, d1, d2⟩ | ⟨d1, d2⟩
    · simp only [↓reduceIte, d1, d2, bnd, n10, if_pos (inb4 hk), cl4 hk, f_X6_faultAs, f_X6_isNothing, f_X12_lost, nmd]
      rcases h.2.2.2.2 k hk with ⟨a1, a2⟩ | ⟨so, n, s1, s2, s3, s4, s5, s6, s7⟩
      · simp only [↓reduceIte, a1, a2, bnd, n10]
        exact ⟨_, _, _, rfl, rfl, h.fault 1⟩
      · have c1 : ¬ nI so = (-1) := ne1 (by omega)
        have c2 : ¬ nI so = (-9) := ne9 (by omega)
        simp only [↓reduceIte, s3, s4, c1, c2, bnd]
        by_cases c3 : nI so = nI w
        · simp only [↓reduceIte, c3, bnd]
          rcases hc_cs s2 s5 s6 x2 with ⟨i, hi, rfl, g1, g2⟩ | ⟨g1, g2⟩
          · have cl : (nI i).toNatClampNeg = i := nI_clamp (by omega)
            have cl2 : (nI (80 * k + i)).toNatClampNeg = 80 * k + i := nI_clamp (by omega)
            simp only [↓reduceIte, g1, g2, bnd, n10, if_pos (inbT (show i < 80 by omega) (by decide)), cl, ix80, if_pos (inbT (show 80 * k + i < 320 by omega) (by decide)), cl2]
            have e3 : up Mc 0 8 0 = Mc := by
              funext a b
              by_cases ea : a = 0
              · subst ea
                by_cases eb : b = 8
                · subst eb; rw [up_ss, hz]
                · rw [up_sn _ _ _ eb]
              · rw [up_n _ _ _ ea]
            rw [e3, s7 i hi]
            exact ⟨_, _, _, rfl, rfl, h⟩
          · simp only [↓reduceIte, g1, g2, bnd]
            exact ⟨_, _, _, rfl, rfl, h.fault 3⟩
        · simp only [↓reduceIte, c3, bnd, show ¬ (2 : Int32) = 0 by decide]
          exact ⟨_, _, _, rfl, rfl, h.fault 2⟩
    · rw [d1, d2]; exact ⟨_, _, _, rfl, rfl, h⟩
  · rw [e1, e2]; exact ⟨_, _, _, rfl, rfl, h⟩
