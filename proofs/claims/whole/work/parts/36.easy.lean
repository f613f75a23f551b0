theorem n10 : ¬ (1 : Int32) = 0 := by decide
theorem z00 : (0 : Int32) = 0 := rfl
/-- what is no scratch stays -/
def AgC (M M' : Mem) : Prop := ∀ k, k ≠ 4 → (k < 28 ∨ 37 < k) → M' k = M k
def AgM (M M' : Mem) : Prop := (∀ k, 0 < k → (k < 9 ∨ 14 < k) → M' k = M k) ∧ ∀ j, (j < 12 ∨ 14 < j) → M' 0 j = M 0 j
theorem AgC.rf {M : Mem} : AgC M M := fun _ _ _ => rfl
theorem AgM.rf {M : Mem} : AgM M M := ⟨fun _ _ _ => rfl, fun _ _ => rfl⟩
theorem AgC.tr {M M' M'' : Mem} (h : AgC M M') (h2 : AgC M' M'') : AgC M M'' := fun k a b => (h2 k a b).trans (h k a b)
theorem AgM.tr {M M' M'' : Mem} (h : AgM M M') (h2 : AgM M' M'') : AgM M M'' := ⟨fun k a b => (h2.1 k a b).trans (h.1 k a b), fun j a => (h2.2 j a).trans (h.2 j a)⟩
theorem AgC.u {M : Mem} {k : Nat} {f : Nat → Int32} (h : k = 4 ∨ (28 ≤ k ∧ k ≤ 37)) : AgC M (upA M k f) := fun c a b => upA_n M f (by omega)
theorem AgM.u {M : Mem} {k : Nat} {f : Nat → Int32} (h : 9 ≤ k ∧ k ≤ 14) : AgM M (upA M k f) := ⟨fun c a b => upA_n M f (by omega), fun j _ => by rw [upA_n M f (by omega)]⟩
theorem PC.ag {M M' : Mem} {q : Nat → Nat → Nat} (h : PC M q) (a : AgC M M') : PC M' q := by
  have e2 := a 2 (by decide) (Or.inl (by decide))
  have e21 := a 21 (by decide) (Or.inl (by decide))
  have e22 := a 22 (by decide) (Or.inl (by decide))
  have e23 := a 23 (by decide) (Or.inl (by decide))
  have e24 := a 24 (by decide) (Or.inl (by decide))
  have e25 := a 25 (by decide) (Or.inl (by decide))
  have e26 := a 26 (by decide) (Or.inl (by decide))
  have e27 := a 27 (by decide) (Or.inl (by decide))
  unfold PC
  rw [e2, e21, e22, e23, e24, e25, e26, e27]
  exact h
theorem PM.ag {M M' : Mem} {q : Nat → Nat → Nat} (h : PM M q) (a : AgM M M') : PM M' q := by
  have e5 := a.2 5 (Or.inl (by decide))
  have e6 := a.2 6 (Or.inl (by decide))
  have f4 := a.1 4 (by decide) (Or.inl (by decide))
  have f5 := a.1 5 (by decide) (Or.inl (by decide))
  have f6 := a.1 6 (by decide) (Or.inl (by decide))
  have f7 := a.1 7 (by decide) (Or.inl (by decide))
  have f8 := a.1 8 (by decide) (Or.inl (by decide))
  unfold PM
  rw [e5, e6, f4, f5, f6, f7, f8]
  exact h
theorem RS.ag {Mc Mm Mc' Mm' : Mem} (h : RS Mc Mm) (a : AgC Mc Mc') (b : AgM Mm Mm') : RS Mc' Mm' := by
  unfold RS
  rw [a 7 (by decide) (Or.inl (by decide)), a 38 (by decide) (Or.inr (by decide)), a 39 (by decide) (Or.inr (by decide)), a 40 (by decide) (Or.inr (by decide)), b.2 21 (Or.inr (by decide)), b.1 15 (by decide) (Or.inr (by decide)), b.1 16 (by decide) (Or.inr (by decide)), b.1 17 (by decide) (Or.inr (by decide))]
  exact h
theorem SH.ag {Mc Mm Mc' Mm' : Mem} (h : SH Mc Mm) (a : AgC Mc Mc') (b : AgM Mm Mm') : SH Mc' Mm' := by
  intro k hk
  have h1 := h k hk
  unfold S1 at h1 ⊢
  rw [a (9 + k) (by omega) (Or.inl (by omega)), a (13 + k) (by omega) (Or.inl (by omega)), b.1 1 (by decide) (Or.inl (by decide)), b.1 2 (by decide) (Or.inl (by decide)), b.1 3 (by decide) (Or.inl (by decide))]
  exact h1
theorem SH.same {Mc Mm Mc' Mm' : Mem} (h : SH Mc Mm) (e : ∀ k, k < 4 → Mc' (9 + k) = Mc (9 + k) ∧ Mc' (13 + k) = Mc (13 + k)) (e1 : Mm' 1 = Mm 1) (e2 : Mm' 2 = Mm 2) (e3 : Mm' 3 = Mm 3) : SH Mc' Mm' := by
  intro k hk
  have h1 := h k hk
  unfold S1 at h1 ⊢
  rw [(e k hk).1, (e k hk).2, e1, e2, e3]
  exact h1
theorem Sim.ag {Mc Mm Mc' Mm' : Mem} (h : Sim Mc Mm) (a : AgC Mc Mc') (b : AgM Mm Mm') : Sim Mc' Mm' := by
  obtain ⟨⟨q, hb, h9, hc, hm⟩, hf, ht, hr, hs⟩ := h
  refine ⟨⟨q, hb, h9, hc.ag a, hm.ag b⟩, ?_, ?_, hr.ag a b, hs.ag a b⟩
  · rw [a 0 (by decide) (Or.inl (by decide)), b.2 0 (Or.inl (by decide))]; exact hf
  · rw [a 1 (by decide) (Or.inl (by decide)), b.2 1 (Or.inl (by decide))]; exact ht
theorem sim_trace {Mc Mm : Mem} (h : Sim Mc Mm) : ∃ (r : Int32), f_X11_trace Mc = some r ∧ f_X12_trace Mm = some r := ⟨Mc 1 0, rfl, by unfold f_X12_trace; rw [h.2.2.1]⟩
theorem sim_fault {Mc Mm : Mem} (h : Sim Mc Mm) : ∃ (r : Int32), f_X11_fault Mc = some r ∧ f_X12_fault Mm = some r := ⟨Mc 0 8, rfl, by unfold f_X12_fault; rw [h.2.1]⟩
theorem sim_many {Mc Mm : Mem} (h : Sim Mc Mm) (x1 : Int32) : ∃ (r : Int32), f_X11_many Mc x1 = some r ∧ f_X12_many Mm x1 = some r := by
  obtain ⟨⟨q, hb, h9, hc, hm⟩, hf, ht, ⟨n, hn, e1, e2, -⟩, hs⟩ := h
  unfold f_X11_many f_X12_many
  rw [st_c hc, al_m hm, hc.2.1, hm.2.1, e1, e2]
  by_cases h0 : x1 = 0
  · simp only [if_pos h0]; exact ⟨_, rfl, rfl⟩
  · simp only [if_neg h0]
    by_cases h1 : x1 = 1
    · simp only [if_pos h1]; exact ⟨_, rfl, rfl⟩
    · simp only [if_neg h1]
      by_cases h2 : x1 = 2
      · simp only [if_pos h2]; exact ⟨_, rfl, rfl⟩
      · simp only [if_neg h2]; exact ⟨_, rfl, rfl⟩
theorem sim_ofStone {Mc Mm : Mem} (h : Sim Mc Mm) (x1 : Int32) (x2 : Int32) : ∃ (r : Int32), f_X11_ofStone Mc x1 x2 = some r ∧ f_X12_ofStone Mm x1 x2 = some r := by
  obtain ⟨⟨q, hb, h9, hc, hm⟩, -⟩ := h
  have hn := hb.n30
  unfold f_X11_ofStone f_X12_ofStone
  rcases has_cs hb hc hm x1 with ⟨c, hcn, rfl, e1, e2⟩ | ⟨e1, e2⟩
  · simp only [e1, e2, bnd, if_neg n10]
    obtain ⟨a1, a2, a3, -⟩ := hc.2.2.1 c hcn
    obtain ⟨b1, b2, b3⟩ := hm.2.2.1 c hcn
    have hi : inb (nI c) 30 := inbT (by omega) (by omega)
    simp only [if_pos hi]
    rw [nI_clamp (n := c) (by omega), a1, a2, a3, b1, b2, b3]
    by_cases h0 : x2 = 0
    · simp only [if_pos h0]; exact ⟨_, rfl, rfl⟩
    · simp only [if_neg h0]
      by_cases h1 : x2 = 1
      · simp only [if_pos h1]; exact ⟨_, rfl, rfl⟩
      · simp only [if_neg h1]
        by_cases h2 : x2 = 2
        · simp only [if_pos h2]; exact ⟨_, rfl, rfl⟩
        · simp only [if_neg h2]; exact ⟨_, rfl, rfl⟩
  · rw [e1, e2]; exact ⟨_, rfl, rfl⟩
theorem sim_height {Mc Mm : Mem} (h : Sim Mc Mm) (x1 : Int32) (x2 : Int32) : ∃ (r : Int32), f_X11_height Mc x1 x2 = some r ∧ f_X12_height Mm x1 x2 = some r := by
  obtain ⟨⟨q, hb, h9, hc, hm⟩, -⟩ := h
  unfold f_X11_height f_X12_height
  rcases has_cs hb hc hm x1 with ⟨c, hcn, rfl, e1, e2⟩ | ⟨e1, e2⟩
  · simp only [e1, e2, bnd, if_neg n10]
    rcases mo_cs x2 with ⟨m, hmn, rfl, d1, d2⟩ | ⟨d1, d2⟩
    · simp only [d1, d2, bnd, if_neg n10, hO_c hb hc hcn hmn, hO_m hb hm hcn hmn]
      exact ⟨_, rfl, rfl⟩
    · rw [d1, d2]; exact ⟨_, rfl, rfl⟩
  · rw [e1, e2]; exact ⟨_, rfl, rfl⟩
/-- one number of the square anew -/
def qs (q : Nat → Nat → Nat) (i j v : Nat) : Nat → Nat → Nat := fun a b => if a = i ∧ b = j then v else q a b
theorem qs_n {q : Nat → Nat → Nat} {i j v a b : Nat} (h : ¬ (a = i ∧ b = j)) : qs q i j v a b = q a b := if_neg h
theorem qs_s {q : Nat → Nat → Nat} {i j v : Nat} : qs q i j v i j = v := if_pos ⟨rfl, rfl⟩
theorem upd_s (f : Nat → Int32) (k : Nat) (v : Int32) : upd f k v k = v := if_pos rfl
theorem upd_n (f : Nat → Int32) {k j : Nat} (v : Int32) (h : j ≠ k) : upd f k v j = f j := if_neg h
theorem sim_lift {Mc Mm : Mem} (h : Sim Mc Mm) (x1 : Int32) (x2 : Int32) : ∃ (r : Int32) (Mc' : Mem) (Mm' : Mem), f_X11_lift Mc x1 x2 = some (r, Mc') ∧ f_X12_lift Mm x1 x2 = some (r, Mm') ∧ Sim Mc' Mm' := by
  obtain ⟨⟨q, hb, h9, hc, hm⟩, hf, ht, hr, hs⟩ := id h
  have hn := hb.n30
  unfold f_X11_lift f_X12_lift
  rcases has_cs hb hc hm x1 with ⟨c, hcn, rfl, e1, e2⟩ | ⟨e1, e2⟩
  · simp only [e1, e2, bnd, if_neg n10]
    rcases wi_n (x := x2) (hi := 99) (n := 99) (by decide) with ⟨v, hv, rfl, d1, d2⟩ | ⟨d1, d2⟩
    · have hi : inb (nI c) 30 := inbT (by omega) (by omega)
      simp only [d1, d2, bnd, if_neg n10, if_pos hi, nmd]
      rw [nI_clamp (n := c) (by omega), (hc.2.2.1 c hcn).2.2.1, (hm.2.2.1 c hcn).2.2]
      refine ⟨_, _, _, rfl, rfl, ⟨qs q 3 c v, ?_, ?_, ?_, ?_⟩, ?_, ?_, ?_, ?_⟩
      · refine ⟨hb.1, fun a ha => ?_, hb.2.2⟩
        obtain ⟨k1, k2, k3⟩ := hb.2.1 a ha
        refine ⟨k1, k2, ?_⟩
        unfold qs
        split <;> omega
      · intro a ha
        have := h9 a ha
        unfold qs
        split <;> omega
      · refine ⟨hc.1, hc.2.1, fun a ha => ?_, hc.2.2.2⟩
        obtain ⟨k1, k2, k3, k4, k5⟩ := hc.2.2.1 a ha
        refine ⟨k1, k2, ?_, k4, k5⟩
        by_cases e : a = c
        · subst e
          rw [up_ss, qs_s]
        · rw [up_sn _ _ _ e, qs_n (by omega)]; exact k3
      · refine ⟨hm.1, hm.2.1, fun a ha => ?_, hm.2.2.2⟩
        obtain ⟨k1, k2, k3⟩ := hm.2.2.1 a ha
        refine ⟨k1, k2, ?_⟩
        by_cases e : a = c
        · subst e
          rw [up_ss, qs_s]
        · rw [up_sn _ _ _ e, qs_n (by omega)]; exact k3
      · exact hf
      · exact ht
      · exact hr
      · exact hs.same (fun k hk => ⟨up_n _ _ _ (by omega), up_n _ _ _ (by omega)⟩) (up_n _ _ _ (by decide)) (up_n _ _ _ (by decide)) (up_n _ _ _ (by decide))
    · rw [d1, d2]; exact ⟨_, _, _, rfl, rfl, h⟩
  · rw [e1, e2]; exact ⟨_, _, _, rfl, rfl, h⟩
theorem sim_month {Mc Mm : Mem} (h : Sim Mc Mm) (x1 : Int32) (x2 : Int32) (x3 : Int32) : ∃ (r : Int32) (Mc' : Mem) (Mm' : Mem), f_X11_month Mc x1 x2 x3 = some (r, Mc') ∧ f_X12_month Mm x1 x2 x3 = some (r, Mm') ∧ Sim Mc' Mm' := by
  obtain ⟨⟨q, hb, h9, hc, hm⟩, hf, ht, hr, hs⟩ := id h
  have hn := hb.n30
  unfold f_X11_month f_X12_month
  rcases mo_cs x1 with ⟨m, hmn, rfl, e1, e2⟩ | ⟨e1, e2⟩
  · simp only [e1, e2, bnd, if_neg n10]
    rcases wi_n (x := x2) (hi := 9) (n := 9) (by decide) with ⟨v, hv, rfl, d1, d2⟩ | ⟨d1, d2⟩
    · simp only [d1, d2, bnd, if_neg n10]
      rcases wi_n (x := x3) (hi := 9) (n := 9) (by decide) with ⟨w, hw, rfl, g1, g2⟩ | ⟨g1, g2⟩
      · simp only [g1, g2, bnd, if_neg n10]
        unfold f_X3_isBare
        rw [al_m hm, hc.2.1, bnd]
        by_cases hz : q 0 1 = 0
        · simp only [if_pos (show nI (q 0 1) = 0 by rw [hz]; rfl), bnd, if_neg n10, if_pos (show nI (q 0 0 * q 0 1) = 0 by rw [hb.z.mpr hz]; rfl)]
          exact ⟨_, _, _, rfl, rfl, h⟩
        · have hz2 : ¬ q 0 0 * q 0 1 = 0 := fun z => hz (hb.z.mp z)
          have w6 : q 0 1 ≤ 6 := by rcases hb.1 with z | z <;> omega
          simp only [if_neg (nI_ne0 (n := q 0 1) (by omega) (by omega)), bnd, if_pos z00, if_neg (nI_ne0 (n := q 0 0 * q 0 1) (by omega) (by omega))]
          have hi : inb (nI m) 12 := inbT (by omega) (by omega)
          simp only [if_pos hi, nmd]
          rw [nI_clamp (n := m) (by omega), (hc.2.2.2 m hmn).1, (hc.2.2.2 m hmn).2, (hm.2.2.2 m hmn).1, (hm.2.2.2 m hmn).2]
          refine ⟨_, _, _, rfl, rfl, ⟨qs (qs q 4 m v) 5 m w, ?_, ?_, ?_, ?_⟩, ?_, ?_, ?_, ?_⟩
          · refine ⟨hb.1, hb.2.1, fun a ha => ?_⟩
            obtain ⟨k1, k2⟩ := hb.2.2 a ha
            unfold qs
            constructor <;> (split <;> (try split) <;> omega)
          · exact h9
          · refine ⟨hc.1, hc.2.1, hc.2.2.1, fun a ha => ?_⟩
            obtain ⟨k1, k2⟩ := hc.2.2.2 a ha
            by_cases e : a = m
            · subst e
              exact ⟨by rw [up_n _ _ _ (by decide), up_ss, qs_n (by omega), qs_s], by rw [up_ss, qs_s]⟩
            · exact ⟨by rw [up_n _ _ _ (by decide), up_sn _ _ _ e, qs_n (by omega), qs_n (by omega)]; exact k1, by rw [up_sn _ _ _ e, up_n _ _ _ (by decide), qs_n (by omega), qs_n (by omega)]; exact k2⟩
          · refine ⟨hm.1, hm.2.1, hm.2.2.1, fun a ha => ?_⟩
            obtain ⟨k1, k2⟩ := hm.2.2.2 a ha
            by_cases e : a = m
            · subst e
              exact ⟨by rw [up_n _ _ _ (by decide), up_ss, qs_n (by omega), qs_s], by rw [up_ss, qs_s]⟩
            · exact ⟨by rw [up_n _ _ _ (by decide), up_sn _ _ _ e, qs_n (by omega), qs_n (by omega)]; exact k1, by rw [up_sn _ _ _ e, up_n _ _ _ (by decide), qs_n (by omega), qs_n (by omega)]; exact k2⟩
          · exact hf
          · exact ht
          · exact hr
          · exact hs.same (fun k hk => ⟨by rw [up_n _ _ _ (by omega), up_n _ _ _ (by omega)], by rw [up_n _ _ _ (by omega), up_n _ _ _ (by omega)]⟩) (by rw [up_n _ _ _ (by decide), up_n _ _ _ (by decide)]) (by rw [up_n _ _ _ (by decide), up_n _ _ _ (by decide)]) (by rw [up_n _ _ _ (by decide), up_n _ _ _ (by decide)])
      · rw [g1, g2]; exact ⟨_, _, _, rfl, rfl, h⟩
    · rw [d1, d2]; exact ⟨_, _, _, rfl, rfl, h⟩
  · rw [e1, e2]; exact ⟨_, _, _, rfl, rfl, h⟩
theorem nI1 (n : Nat) : nI n + 1 = nI (n + 1) := nI_1 n
theorem ri_hi {Mc Mm : Mem} {q : Nat → Nat → Nat} (hb : Bd q) (hc : PC Mc q) (hm : PM Mm q) {c : Nat} (hcn : c < q 0 0 * q 0 1) (N : Nat) : ∀ k b m : Nat, b < 12 → m ≤ 12 → 12 - m < k → ∃ r, f_X3_highestMonth_l4 N Mc (nI c) k (nI b) (nI m) = some r ∧ f_X12_rises_l27 N Mm (nI c) (nI 0) k (nI b) (nI m) = some r := by
  intro k
  induction k with
  | zero => intro b m _ _ h; omega
  | succ k ih =>
    intro b m h1 h2 h3
    rw [f_X3_highestMonth_l4, f_X12_rises_l27]
    by_cases e : m = 12
    · subst e
      exact ⟨nI b, by rw [if_pos (by decide)], by rw [if_pos (by decide)]⟩
    · have e1 : ¬ (12 : Int32) ≤ nI m := nI_ge (a := m) (b := 12) (by omega) (by omega)
      rw [if_neg e1, if_neg e1, if_pos (show nI 0 = 0 from rfl), hO_c hb hc hcn (by omega), hO_c hb hc hcn h1, hO_m hb hm hcn (by omega), hO_m hb hm hcn h1, bnd, bnd, bnd, bnd, nI1]
      by_cases e2 : nI (hN q c m) ≤ nI (hN q c b)
      · simp only [if_pos e2]; exact ih b (m + 1) h1 (by omega) (by omega)
      · simp only [if_neg e2]; exact ih m (m + 1) (by omega) (by omega) (by omega)
theorem ri_lo {Mc Mm : Mem} {q : Nat → Nat → Nat} (hb : Bd q) (hc : PC Mc q) (hm : PM Mm q) {c : Nat} (hcn : c < q 0 0 * q 0 1) (N : Nat) : ∀ k b m : Nat, b < 12 → m ≤ 12 → 12 - m < k → ∃ r, f_X3_lowestMonth_l4 N Mc (nI c) k (nI b) (nI m) = some r ∧ f_X12_rises_l27 N Mm (nI c) (nI 1) k (nI b) (nI m) = some r := by
  intro k
  induction k with
  | zero => intro b m _ _ h; omega
  | succ k ih =>
    intro b m h1 h2 h3
    rw [f_X3_lowestMonth_l4, f_X12_rises_l27]
    by_cases e : m = 12
    · subst e
      exact ⟨nI b, by rw [if_pos (by decide)], by rw [if_pos (by decide)]⟩
    · have e1 : ¬ (12 : Int32) ≤ nI m := nI_ge (a := m) (b := 12) (by omega) (by omega)
      rw [if_neg e1, if_neg e1, if_neg (show ¬ nI 1 = 0 by decide), hO_c hb hc hcn (by omega), hO_c hb hc hcn h1, hO_m hb hm hcn (by omega), hO_m hb hm hcn h1, bnd, bnd, bnd, bnd, nI1]
      by_cases e2 : nI (hN q c b) ≤ nI (hN q c m)
      · simp only [if_pos e2]; exact ih b (m + 1) h1 (by omega) (by omega)
      · simp only [if_neg e2]; exact ih m (m + 1) (by omega) (by omega) (by omega)
theorem sim_rises {Mc Mm : Mem} (h : Sim Mc Mm) (x1 : Int32) (x2 : Int32) : ∃ (r : Int32), f_X11_rises NN Mc x1 x2 = some r ∧ f_X12_rises NN Mm x1 x2 = some r := by
  obtain ⟨⟨q, hb, h9, hc, hm⟩, -⟩ := h
  unfold f_X11_rises f_X12_rises
  rcases has_cs hb hc hm x1 with ⟨c, hcn, rfl, e1, e2⟩ | ⟨e1, e2⟩
  · simp only [e1, e2, bnd, if_neg n10]
    rcases wi_n (x := x2) (hi := 1) (n := 1) (by decide) with ⟨v, hv, rfl, d1, d2⟩ | ⟨d1, d2⟩
    · simp only [d1, d2, bnd, if_neg n10]
      rcases (show v = 0 ∨ v = 1 by omega) with rfl | rfl
      · rw [if_pos (show nI 0 = 0 from rfl)]
        obtain ⟨r, r1, r2⟩ := ri_hi hb hc hm hcn NN NN 0 1 (by decide) (by decide) (by decide)
        unfold f_X3_highestMonth
        refine ⟨r, ?_, r2⟩
        rw [show f_X3_highestMonth_l4 NN Mc (nI c) NN 0 1 = some r from r1]; rfl
      · rw [if_neg (show ¬ nI 1 = 0 by decide)]
        obtain ⟨r, r1, r2⟩ := ri_lo hb hc hm hcn NN NN 0 1 (by decide) (by decide) (by decide)
        unfold f_X3_lowestMonth
        refine ⟨r, ?_, r2⟩
        rw [show f_X3_lowestMonth_l4 NN Mc (nI c) NN 0 1 = some r from r1]; rfl
    · rw [d1, d2]; exact ⟨_, rfl, rfl⟩
  · rw [e1, e2]; exact ⟨_, rfl, rfl⟩
