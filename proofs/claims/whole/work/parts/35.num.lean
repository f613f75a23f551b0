theorem bnd {α β : Type} (a : α) (f : α → Option β) : (some a).bind f = f a := rfl
theorem nmd {α β : Type} (x : α) (k : α → β) : nm x k = k x := rfl
theorem inbT {i n : Nat} (h : i < n) (hn : n ≤ 100000) : inb (nI i) n := by
  intro h2
  rcases h2 with h2 | h2
  · exact nI_pos (by omega) h2
  · rw [nI_clamp (by omega)] at h2; omega
theorem inbI {i n : Nat} (h : i < 2147483648) : inb (nI i) n ↔ i < n := by
  constructor
  · intro h1
    have h3 : ¬ n ≤ (nI i).toNatClampNeg := fun z => h1 (Or.inr z)
    rw [nI_clamp (by omega)] at h3; omega
  · intro h1 h2
    rcases h2 with h2 | h2
    · exact nI_pos (by omega) h2
    · rw [nI_clamp (by omega)] at h2; omega
theorem ne9 {n : Nat} (h : n < 2147483648) : ¬ nI n = (-9) := fun e => by
  have h1 := congrArg Int32.toInt e
  rw [nI_toInt (by omega)] at h1
  have h2 : ((-9 : Int32)).toInt = -9 := by decide
  omega
theorem ne1 {n : Nat} (h : n < 2147483648) : ¬ nI n = (-1) := fun e => by
  have h1 := congrArg Int32.toInt e
  rw [nI_toInt (by omega)] at h1
  have h2 : ((-1 : Int32)).toInt = -1 := by decide
  omega
theorem remI {a b : Nat} (ha : a < 2147483648) (h0 : 0 < b) (hb : b < 2147483648) : rem32 (nI a) (nI b) = nI (a % b) := pk_rem (by omega) h0 (by omega)
theorem subT {a b : Nat} (ha : a < 1000000) (hb : b < 1000000) : (nI a - nI b).toInt = (a : Int) - b := pk_sub_toInt (by omega) (by omega)
theorem abI {a b : Nat} (ha : a < 1000000) (hb : b < 1000000) : ab (nI a - nI b) = nI ((a - b) + (b - a)) := by
  unfold ab
  rcases Nat.le_total b a with h | h
  · rw [pk_sub h, if_pos (nI_pos' (by omega))]
    congr 1; omega
  · rcases Nat.eq_or_lt_of_le h with e | h1
    · subst e
      rw [pk_sub (Nat.le_refl _), if_pos (nI_pos' (by omega))]
      congr 1; omega
    · have h2 : nI a - nI b < 0 := pk_sneg (by omega) h1
      have h3 : ¬ (0 : Int32) ≤ nI a - nI b := fun z => by
        have e1 := Int32.lt_iff_toInt_lt.mp h2
        have e2 := Int32.le_iff_toInt_le.mp z
        omega
      rw [if_neg h3]
      have e : (0 : Int32) - (nI a - nI b) = nI b - nI a := by
        apply Int32.toInt_inj.mp
        have s1 := subT ha hb
        have s2 := subT hb ha
        rw [Int32.toInt_sub, s1, s2]
        have z : ((0 : Int32)).toInt = 0 := by decide
        rw [z]
        have e3 : (0 : Int) - (↑a - ↑b) = ↑b - ↑a := by omega
        rw [e3]
        rw [Int.bmod_def]
        split <;> omega
      rw [e, pk_sub h]
      congr 1; omega
theorem mxI {a b : Nat} (ha : a < 2147483648) (hb : b < 2147483648) : mx (nI a) (nI b) = nI (max a b) := by
  unfold mx
  by_cases h : a < b
  · rw [if_pos (nI_lt h (by omega))]; congr 1; omega
  · rw [if_neg (nI_nlt (by omega) (by omega))]; congr 1; omega
theorem mnI {a b : Nat} (ha : a < 2147483648) (hb : b < 2147483648) : mn (nI a) (nI b) = nI (min a b) := by
  unfold mn
  by_cases h : b < a
  · rw [if_pos (nI_lt h (by omega))]; congr 1; omega
  · rw [if_neg (nI_nlt (by omega) (by omega))]; congr 1; omega
/-- memory -/
theorem upA_s (M : Mem) (k : Nat) (f : Nat → Int32) : upA M k f k = f := if_pos rfl
theorem upA_n (M : Mem) {k c : Nat} (f : Nat → Int32) (h : c ≠ k) : upA M k f c = M c := if_neg h
theorem up_n (M : Mem) {k c : Nat} (j : Nat) (v : Int32) (h : c ≠ k) : up M k j v c = M c := if_neg h
theorem up_s (M : Mem) (k j : Nat) (v : Int32) : up M k j v k = upd (M k) j v := if_pos rfl
theorem up_ss (M : Mem) (k j : Nat) (v : Int32) : up M k j v k j = v := by rw [up_s]; exact if_pos rfl
theorem up_sn (M : Mem) (k : Nat) {j i : Nat} (v : Int32) (h : i ≠ j) : up M k j v k i = M k i := by rw [up_s]; exact if_neg h
theorem upA_upA (M : Mem) (k : Nat) (f g : Nat → Int32) : upA (upA M k f) k g = upA M k g := by
  funext c
  unfold upA
  by_cases h : c = k
  · rw [if_pos h, if_pos h]
  · rw [if_neg h, if_neg h, if_neg h]
theorem upA_id (M : Mem) (k : Nat) : upA M k (M k) = M := by
  funext c
  unfold upA
  by_cases h : c = k
  · rw [if_pos h, h]
  · rw [if_neg h]
/-- the first n places filled -/
def fl (f g : Nat → Int32) (n : Nat) : Nat → Int32 := fun c => if c < n then f c else g c
theorem fl_0 (f g : Nat → Int32) : fl f g 0 = g := by funext c; exact if_neg (by omega)
theorem fl_s (f g : Nat → Int32) (n : Nat) : upd (fl f g n) n (f n) = fl f g (n + 1) := by
  funext c
  unfold upd fl
  by_cases h : c = n
  · subst h; rw [if_pos rfl, if_pos (by omega)]
  · rw [if_neg h]
    by_cases h2 : c < n
    · rw [if_pos h2, if_pos (by omega)]
    · rw [if_neg h2, if_neg (by omega)]
theorem fl_in {f g : Nat → Int32} {n c : Nat} (h : c < n) : fl f g n c = f c := if_pos h
theorem fl_out {f g : Nat → Int32} {n c : Nat} (h : ¬ c < n) : fl f g n c = g c := if_neg h
/-- the square -/
theorem Bd.n30 {q : Nat → Nat → Nat} (h : Bd q) : q 0 0 * q 0 1 ≤ 30 := by
  rcases h.1 with ⟨h1, h2⟩ | ⟨h1, h2, h3, h4⟩
  · rw [h1, h2]; decide
  · exact Nat.le_trans (Nat.mul_le_mul h2 h4) (by decide)
theorem Bd.pos {q : Nat → Nat → Nat} (h : Bd q) {c : Nat} (hc : c < q 0 0 * q 0 1) : 2 ≤ q 0 0 ∧ q 0 0 ≤ 5 ∧ 2 ≤ q 0 1 ∧ q 0 1 ≤ 6 := by
  rcases h.1 with ⟨h1, h2⟩ | h1
  · rw [h1, h2] at hc; exact absurd hc (by simp)
  · exact h1
theorem Bd.z {q : Nat → Nat → Nat} (h : Bd q) : q 0 0 * q 0 1 = 0 ↔ q 0 1 = 0 := by
  rcases h.1 with ⟨h1, h2⟩ | ⟨h1, h2, h3, h4⟩
  · rw [h1, h2]
  · constructor
    · intro e
      rcases Nat.mul_eq_zero.mp e with e | e <;> omega
    · intro e; omega
theorem st_c {M : Mem} {q : Nat → Nat → Nat} (h : PC M q) : f_X3_stones M = some (nI (q 0 0 * q 0 1)) := by
  unfold f_X3_stones
  rw [h.1, h.2.1, pk_mul]
theorem al_m {M : Mem} {q : Nat → Nat → Nat} (h : PM M q) : f_X12_all M = some (nI (q 0 0 * q 0 1)) := by
  unfold f_X12_all
  rw [h.1, h.2.1, pk_mul]
theorem has_cs {Mc Mm : Mem} {q : Nat → Nat → Nat} (hb : Bd q) (hc : PC Mc q) (hm : PM Mm q) (x : Int32) : (∃ c : Nat, c < q 0 0 * q 0 1 ∧ x = nI c ∧ f_X3_has Mc x = some 1 ∧ f_X12_isStone Mm x = some 1) ∨ (f_X3_has Mc x = some 0 ∧ f_X12_isStone Mm x = some 0) := by
  have hn := hb.n30
  unfold f_X3_has f_X12_isStone
  rw [al_m hm, hc.1, hc.2.1, pk_mul]
  by_cases h0 : x < 0
  · right; rw [if_pos h0, if_pos h0]; exact ⟨rfl, rfl⟩
  · rw [if_neg h0, if_neg h0, bnd]
    by_cases h1 : nI (q 0 0 * q 0 1) ≤ x
    · right; rw [if_pos h1]; exact ⟨rfl, rfl⟩
    · left
      rcases pk_ix x (n := q 0 0 * q 0 1) (by omega) with h | h | ⟨j, hj, e⟩
      · exact absurd h h0
      · exact absurd h h1
      · exact ⟨j, hj, e, by rw [if_neg h1], by rw [if_neg h1]⟩
theorem wi_cs (x lo hi : Int32) : (f_X11_isWithin x lo hi = some 1 ∧ f_X12_within x lo hi = some 1 ∧ ¬ x < lo ∧ ¬ hi < x) ∨ (f_X11_isWithin x lo hi = some 0 ∧ f_X12_within x lo hi = some 0) := by
  unfold f_X11_isWithin f_X12_within
  by_cases h0 : x < lo
  · right; rw [if_pos h0]; exact ⟨rfl, rfl⟩
  · rw [if_neg h0]
    by_cases h1 : hi < x
    · right; rw [if_pos h1]; exact ⟨rfl, rfl⟩
    · left; rw [if_neg h1]; exact ⟨rfl, rfl, h0, h1⟩
theorem nlt {x y : Int32} (h : ¬ y < x) : x ≤ y := by
  rw [Int32.le_iff_toInt_le]
  have h2 := mt Int32.lt_iff_toInt_lt.mpr h
  omega
theorem wi_n {x hi : Int32} {n : Nat} (hM : hi.toInt = n) : (∃ v : Nat, v ≤ n ∧ x = nI v ∧ f_X11_isWithin x 0 hi = some 1 ∧ f_X12_within x 0 hi = some 1) ∨ (f_X11_isWithin x 0 hi = some 0 ∧ f_X12_within x 0 hi = some 0) := by
  rcases wi_cs x 0 hi with ⟨h1, h2, h3, h4⟩ | h
  · left
    obtain ⟨j, hj, e⟩ := nI_of2 hM h3 (nlt h4)
    exact ⟨j, hj, e, h1, h2⟩
  · right; exact h
theorem mo_cs (x : Int32) : (∃ m : Nat, m < 12 ∧ x = nI m ∧ f_X11_isMonth x = some 1 ∧ f_X12_isMonth x = some 1) ∨ (f_X11_isMonth x = some 0 ∧ f_X12_isMonth x = some 0) := by
  unfold f_X11_isMonth f_X12_isMonth
  rcases wi_n (x := x) (hi := 11) (n := 11) (by decide) with ⟨v, h1, h2, h3, h4⟩ | ⟨h1, h2⟩
  · left; exact ⟨v, by omega, h2, by rw [h3]; rfl, by rw [h4]; rfl⟩
  · right; rw [h1, h2]; exact ⟨rfl, rfl⟩
theorem ap_cs (x : Int32) : (∃ v : Nat, v ≤ 999 ∧ x = nI v ∧ f_X11_isApart x = some 1 ∧ f_X12_within x 0 999 = some 1) ∨ (f_X11_isApart x = some 0 ∧ f_X12_within x 0 999 = some 0) := by
  unfold f_X11_isApart
  rcases wi_n (x := x) (hi := 999) (n := 999) (by decide) with ⟨v, h1, h2, h3, h4⟩ | ⟨h1, h2⟩
  · left; exact ⟨v, by omega, h2, by rw [h3]; rfl, h4⟩
  · right; rw [h1, h2]; exact ⟨rfl, rfl⟩
theorem sh_cs (x : Int32) : (∃ k : Nat, k < 4 ∧ x = nI k ∧ f_X11_isSheet x = some 1 ∧ f_X12_isSheet x = some 1) ∨ (f_X11_isSheet x = some 0 ∧ f_X12_isSheet x = some 0) := by
  unfold f_X11_isSheet f_X12_isSheet
  rcases wi_n (x := x) (hi := 3) (n := 3) (by decide) with ⟨v, h1, h2, h3, h4⟩ | ⟨h1, h2⟩
  · left; exact ⟨v, by omega, h2, by rw [h3]; rfl, by rw [h4]; rfl⟩
  · right; rw [h1, h2]; exact ⟨rfl, rfl⟩
theorem so_cs (x : Int32) : (∃ k : Nat, k < 3 ∧ x = nI k ∧ f_X11_isSort x = some 1 ∧ f_X12_isSort x = some 1) ∨ (f_X11_isSort x = some 0 ∧ f_X12_isSort x = some 0) := by
  unfold f_X11_isSort f_X12_isSort
  rcases wi_n (x := x) (hi := 2) (n := 2) (by decide) with ⟨v, h1, h2, h3, h4⟩ | ⟨h1, h2⟩
  · left; exact ⟨v, by omega, h2, by rw [h3]; rfl, by rw [h4]; rfl⟩
  · right; rw [h1, h2]; exact ⟨rfl, rfl⟩
/-- heights -/
def hK (q : Nat → Nat → Nat) (k c m : Nat) : Nat := 10 * q 2 c + q 3 c + (if k = 0 then 0 else if k = 1 then 3 * q 4 m else 3 * q 4 m + 2 * q 5 m)
def hN (q : Nat → Nat → Nat) (c m : Nat) : Nat := hK q (q 1 c) c m
theorem hK_le {q : Nat → Nat → Nat} (hb : Bd q) {k c m : Nat} (hc : c < q 0 0 * q 0 1) (hm : m < 12) : hK q k c m ≤ 500 := by
  have h1 := hb.2.1 c hc
  have h2 := hb.2.2 m hm
  unfold hK
  split
  · omega
  · split <;> omega
theorem hN_le {q : Nat → Nat → Nat} (hb : Bd q) {c m : Nat} (hc : c < q 0 0 * q 0 1) (hm : m < 12) : hN q c m ≤ 500 := hK_le hb hc hm
theorem hA_c {M : Mem} {q : Nat → Nat → Nat} (hb : Bd q) (hp : PC M q) {k c m : Nat} (hk : k ≤ 2) (hc : c < q 0 0 * q 0 1) (hm : m < 12) : f_X3_heightAs M (nI k) (nI c) (nI m) = some (nI (hK q k c m)) := by
  have hn := hb.n30
  obtain ⟨e1, e2, e3, e4, e5⟩ := hp.2.2.1 c hc
  obtain ⟨f1, f2⟩ := hp.2.2.2 m hm
  unfold f_X3_heightAs
  rw [if_pos (inbT (i := c) (by omega) (by omega)), if_pos (inbT (i := k) (by omega) (by omega)), if_pos (inbT (i := m) (by omega) (by omega)), nI_clamp (n := c) (by omega), nI_clamp (n := k) (by omega), nI_clamp (n := m) (by omega), e2, e3, f1, f2]
  rcases (show k = 0 ∨ k = 1 ∨ k = 2 by omega) with rfl | rfl | rfl
  · show some (nI 10 * nI (q 2 c) + nI (q 3 c) + nI 0) = _
    rw [pk_mul, nI_add, nI_add]; rfl
  · show some (nI 10 * nI (q 2 c) + nI (q 3 c) + nI 3 * nI (q 4 m)) = _
    rw [pk_mul, pk_mul, nI_add, nI_add]; rfl
  · show some (nI 10 * nI (q 2 c) + nI (q 3 c) + (nI 3 * nI (q 4 m) + nI 2 * nI (q 5 m))) = _
    rw [pk_mul, pk_mul, pk_mul, nI_add, nI_add, nI_add]; rfl
theorem hO_c {M : Mem} {q : Nat → Nat → Nat} (hb : Bd q) (hp : PC M q) {c m : Nat} (hc : c < q 0 0 * q 0 1) (hm : m < 12) : f_X3_heightOf M (nI c) (nI m) = some (nI (hN q c m)) := by
  have hn := hb.n30
  unfold f_X3_heightOf
  rw [if_pos (inbT (i := c) (by omega) (by omega)), nI_clamp (n := c) (by omega), (hp.2.2.1 c hc).1, hA_c hb hp (hb.2.1 c hc).1 hc hm]
  rfl
theorem hA_m {M : Mem} {q : Nat → Nat → Nat} (hb : Bd q) (hp : PM M q) {k c m : Nat} (hk : k ≤ 2) (hc : c < q 0 0 * q 0 1) (hm : m < 12) : f_X12_heightAs M (nI c) (nI k) (nI m) = some (nI (hK q k c m)) := by
  have hn := hb.n30
  obtain ⟨e1, e2, e3⟩ := hp.2.2.1 c hc
  obtain ⟨f1, f2⟩ := hp.2.2.2 m hm
  unfold f_X12_heightAs
  rw [if_pos (inbT (i := c) (by omega) (by omega)), nI_clamp (n := c) (by omega), e2, e3, nmd]
  rcases (show k = 0 ∨ k = 1 ∨ k = 2 by omega) with rfl | rfl | rfl
  · rw [if_pos (show nI 0 ≤ 0 by decide), nmd, if_neg (show ¬ nI 0 = 2 by decide)]
    show some (nI 10 * nI (q 2 c) + nI (q 3 c) + nI 0) = _
    rw [pk_mul, nI_add, nI_add]; rfl
  · rw [if_neg (show ¬ nI 1 ≤ 0 by decide), if_pos (inbT (i := m) (by omega) (by omega)), nmd, if_neg (show ¬ nI 1 = 2 by decide), nI_clamp (n := m) (by omega), f1]
    show some (nI 10 * nI (q 2 c) + nI (q 3 c) + nI 3 * nI (q 4 m)) = _
    rw [pk_mul, pk_mul, nI_add, nI_add]; rfl
  · rw [if_neg (show ¬ nI 2 ≤ 0 by decide), if_pos (inbT (i := m) (by omega) (by omega)), nmd, if_pos (show nI 2 = 2 by decide), nI_clamp (n := m) (by omega), f1, f2]
    show some (nI 10 * nI (q 2 c) + nI (q 3 c) + nI 3 * nI (q 4 m) + nI 2 * nI (q 5 m)) = _
    rw [pk_mul, pk_mul, pk_mul, nI_add, nI_add, nI_add]
    congr 2
    show 10 * q 2 c + q 3 c + 3 * q 4 m + 2 * q 5 m = 10 * q 2 c + q 3 c + (3 * q 4 m + 2 * q 5 m)
    omega
theorem hO_m {M : Mem} {q : Nat → Nat → Nat} (hb : Bd q) (hp : PM M q) {c m : Nat} (hc : c < q 0 0 * q 0 1) (hm : m < 12) : f_X12_heightOf M (nI c) (nI m) = some (nI (hN q c m)) := by
  have hn := hb.n30
  unfold f_X12_heightOf
  rw [if_pos (inbT (i := c) (by omega) (by omega)), nI_clamp (n := c) (by omega), (hp.2.2.1 c hc).1, hA_m hb hp (hb.2.1 c hc).1 hc hm]
  rfl
