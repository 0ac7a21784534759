/-! LINKS, 2: the record that has begun. Striping's draft (G W k dp bg, cr co) and the reference's occurrences b .. b + k - 1 (rows B, numbers J); P j: the occurrence that stands at depth j (-1: the record). -/
theorem nI_m1 {w : Nat} (h : w < 2 ^ 31) : ¬ nI w ≤ -1 := fun z => nI_pos h (Int32.lt_of_le_of_lt z (by decide))
theorem nI_m1' {w : Nat} (h : w < 2 ^ 31) : -1 < nI w := Int32.not_le.mp (nI_m1 h)
theorem li_cn {ofs aro : Nat → Int32} {f ins : Int32} {b : Nat} : ∀ j, 0 < mo_cn ofs aro f ins b j ↔ ∃ t, b ≤ t ∧ t < b + j ∧ ofs t = f ∧ aro t = ins
  | 0 => ⟨fun h => absurd h (Nat.lt_irrefl 0), fun ⟨t, h1, h2, _⟩ => by omega⟩
  | j + 1 => by
    show 0 < mo_cn ofs aro f ins b j + (if ofs (b + j) = f ∧ aro (b + j) = ins then 1 else 0) ↔ _
    have ih := li_cn (ofs := ofs) (aro := aro) (f := f) (ins := ins) (b := b) j
    by_cases z : ofs (b + j) = f ∧ aro (b + j) = ins
    · rw [if_pos z]
      exact ⟨fun _ => ⟨b + j, by omega, by omega, z⟩, fun _ => by omega⟩
    · rw [if_neg z, Nat.add_zero, ih]
      refine ⟨fun ⟨t, h1, h2, h3⟩ => ⟨t, h1, by omega, h3⟩, fun ⟨t, h1, h2, h3⟩ => ⟨t, h1, ?_, h3⟩⟩
      rcases Nat.lt_or_ge t (b + j) with y | y
      · exact y
      · exact absurd (by rw [show b + j = t by omega]; exact h3) z
/-- what stands in pj has an occurrence of x -/
def li_hs (B : Nat → Nat → Int32) (b k : Nat) (pj x : Int32) : Prop := ∃ t, b ≤ t ∧ t < b + k ∧ B 4 t = x ∧ B 6 t = pj
/-- a depth: the group's field g, the newest field wj, the occurrence pj -/
def li_L (A : Nat → Nat → Int32) (n : Nat) (g wj pj : Int32) (B : Nat → Nat → Int32) (b k : Nat) : Prop := (wj = -1 ∨ ∃ w, w < n ∧ wj = nI w ∧ A 0 w = g ∧ li_hs B b k pj wj) ∧ (∀ t, b ≤ t → t < b + k → B 6 t = pj → ∃ w, w < n ∧ B 4 t = nI w ∧ nI w ≤ wj) ∧ ∀ h, h < n → A 0 h = g → A 1 h = 0 → nI h < wj → li_hs B b k pj (nI h)
def li_Pj (A : Nat → Nat → Int32) (n : Nat) (G : Nat → Int32) (B : Nat → Nat → Int32) (b k : Nat) (P : Nat → Int32) (j : Nat) : Prop := ∃ q w, P (j + 1) = nI q ∧ b ≤ q ∧ q < b + k ∧ B 6 q = P j ∧ B 4 q = nI w ∧ G (j + 1) = nI w ∧ w < n ∧ A 5 w = -1 ∧ A 2 w = nI (j + 1)
def li_O (A : Nat → Nat → Int32) (n : Nat) (G W : Nat → Int32) (k dp : Nat) (B : Nat → Nat → Int32) (J : Nat → Int32) (b : Nat) (P : Nat → Int32) : Prop := dp ≤ 16 ∧ P 0 = -1 ∧ G 0 = -1 ∧ J 13 = P dp ∧ (∀ i j, i < j → j ≤ dp → ¬ P i = P j) ∧ (∀ j, j < dp → li_Pj A n G B b k P j) ∧ ∀ j, j ≤ dp → li_L A n (G j) (W j) (P j) B b k
def li_D (A : Nat → Nat → Int32) (n : Nat) (G W : Nat → Int32) (k dp : Nat) (bg cr co : Int32) (B : Nat → Nat → Int32) (J : Nat → Int32) (b r : Nat) : Prop := (r ≤ 128 ∧ b + k ≤ 2048 ∧ (bg = 0 → k = 0 ∧ J 13 = -1) ∧ (¬ bg = 0 → r < 128)) ∧ (cr = nI r ∧ J 11 = nI r ∧ B 7 r = nI b ∧ co = nI b ∧ J 9 = nI (b + k) ∧ J 12 = bg ∧ (bg = 0 ∨ bg = 1)) ∧ (∀ t, b ≤ t → t < b + k → B 6 t = -1 ∨ ∃ q, b ≤ q ∧ q < t ∧ B 6 t = nI q) ∧ (¬ bg = 0 → ∃ P, li_O A n G W k dp B J b P)
section LI
variable {A : Nat → Nat → Int32} {I : Nat → Int32} {B : Nat → Nat → Int32} {J : Nat → Int32} {n lw : Nat} {G W : Nat → Int32} {k dp : Nat} {bg cr co : Int32} {b r : Nat} {P : Nat → Int32}
theorem li_q {x : Int32} {q g : Nat} (hn : n ≤ 48) (hx : x = -1 ∨ ∃ w, w < n ∧ x = nI w) (hq : (if x + 1 < 0 then 0 else x + 1) = nI q) (hq2 : q < 2 ^ 31) (hg : g < n) : q ≤ g ↔ x < nI g := by
  rcases hx with z | ⟨w, hw, z⟩
  · subst z
    have : q = 0 := (nI_eq hq2 (by decide)).mp (hq.symm.trans (by decide))
    subst this
    exact ⟨fun _ => nI_m1' (by omega), fun _ => Nat.zero_le _⟩
  · subst z
    rw [nI_1, if_neg (nI_pos (by omega))] at hq
    have : w + 1 = q := (nI_eq (by omega) hq2).mp hq
    rw [nI_ltI (by omega) (by omega)]
    omega
theorem li_q0 (x : Int32) : ∃ q, (if x + 1 < 0 then 0 else x + 1) = nI q ∧ q < 2 ^ 31 := by
  by_cases z : x + 1 < 0
  · exact ⟨0, by rw [if_pos z]; rfl, by decide⟩
  · obtain ⟨q, h1, h2⟩ := nI_of z
    exact ⟨q, by rw [if_neg z]; exact h2, h1⟩
theorem li_ps (h : li_O A n G W k dp B J b P) (hb : b + k ≤ 2048) : mo_ps B J = G dp := by
  obtain ⟨h1, h2, h3, h4, h5, h6, h7⟩ := h
  unfold mo_ps
  rw [h4]
  match dp, h6 with
  | 0, _ => rw [if_pos h2, h3]
  | j + 1, h6 =>
    obtain ⟨q, w, e1, e2, e3, e4, e5, e6, -⟩ := h6 j (by omega)
    rw [e1, if_neg (nI_nm1 (by omega)), nI_clamp (by omega), e5, e6]
theorem li_hs_iff (h4 : J 13 = P dp) (g : Nat) : 0 < mo_hs B J b (b + k) g ↔ li_hs B b k (P dp) (nI g) := by
  unfold mo_hs
  rw [h4, Nat.add_sub_cancel_left]
  exact li_cn k
theorem li_W (h : li_L A n (G dp) (W dp) (P dp) B b k) : W dp = -1 ∨ ∃ w, w < n ∧ W dp = nI w := by
  rcases h.1 with z | ⟨w, hw, z, -⟩
  · exact Or.inl z
  · exact Or.inr ⟨w, hw, z⟩
/-- has: at most the newest -/
theorem li_le (hn : n ≤ 48) (h : li_L A n (G dp) (W dp) (P dp) B b k) {g : Nat} (hg : g < n) (hh : li_hs B b k (P dp) (nI g)) : nI g ≤ W dp := by
  obtain ⟨t, t1, t2, t3, t4⟩ := hh
  obtain ⟨w, hw, w1, w2⟩ := h.2.1 t t1 t2 t4
  rw [← t3, w1]
  exact w2
/-- has: the required ones up to the newest, and the newest -/
theorem li_ge (h : li_L A n (G dp) (W dp) (P dp) B b k) {g : Nat} (hn : n ≤ 48) (hg : g < n) (h0 : A 0 g = G dp) (h1 : A 1 g = 0) (hh : ¬ W dp < nI g) : li_hs B b k (P dp) (nI g) := by
  by_cases z : nI g = W dp
  · rcases h.1 with y | ⟨w, hw, y, -, y2⟩
    · exact absurd (z.trans y) (nI_nm1 (by omega))
    · rw [z]; exact y2
  · exact h.2.2 g hg h0 h1 (Int32.lt_of_le_of_ne (Int32.not_lt.mp hh) z)
/-- both ask the same of an occurrence -/
theorem li_may (hS : li_S A I B J n lw) (hD : li_D A n G W k dp bg cr co B J b r) (hG3 : ∀ f, f < n → B 3 f = 0 ∨ B 3 f = 1) {q w : Nat} {gb : Int32} (hw : w < n) (hgb : B 3 w = gb) (hq : (if W dp + 1 < 0 then 0 else W dp + 1) = nI q) (hq2 : q < 2 ^ 31) : cl_may A n G W k dp bg co q w ↔ mo_may B J n b (b + k) (nI w) gb := by
  obtain ⟨⟨d1, d2, d3, d4⟩, ⟨d5, d6, d7, d8, d9, d10, d11⟩, -, d12⟩ := hD
  obtain ⟨hn, -, -, -, -, -, -, -, ⟨e0, e1, e2⟩, -, -⟩ := hS
  unfold cl_may mo_may
  rw [d10, e0, e1]
  refine and_congr_right fun hbg => ?_
  obtain ⟨P, hO⟩ := d12 hbg
  have hps := li_ps hO d2
  obtain ⟨o1, o2, o3, o4, o5, o6, o7⟩ := hO
  have hL := o7 dp (Nat.le_refl _)
  have hWv := li_W hL
  have hs : ∀ g, 0 < mo_hs B J b (b + k) g ↔ li_hs B b k (P dp) (nI g) := fun g => li_hs_iff o4 g
  have hs0 : ∀ g, mo_hs B J b (b + k) g = 0 ↔ ¬ li_hs B b k (P dp) (nI g) := fun g => by rw [← hs g]; omega
  rw [hps, d8, nI_add, show (2048 : Int32) = nI 2048 from rfl, nI_ltI (by omega) (by decide)]
  constructor
  · rintro ⟨c1, c2, c3, c4, c5⟩
    refine ⟨w, hw, rfl, hgb, c1, c2, ?_, fun g hg => ?_⟩
    · by_cases z : li_hs B b k (P dp) (nI w)
      · exact Or.inl (c4 (Int32.le_antisymm (li_le hn hL hw z) (Int32.not_lt.mp c3)))
      · exact Or.inr ((hs0 w).mpr z)
    · unfold mo_cg
      rw [e0, e1]
      intro hgw
      refine ⟨?_, ?_⟩
      · rcases Nat.lt_or_ge g w with y | y
        · by_cases y1 : A 1 g = 0
          · refine Or.inr (Or.inr ((hs g).mpr (li_ge hL hn hg (hgw.trans c1) y1 (fun y2 => c5 ⟨g, hg, (li_q hn hWv hq hq2 hg).mpr y2, nI_lt y (by omega), hgw.trans c1, y1⟩))))
          · exact Or.inr (Or.inl y1)
        · exact Or.inl y
      · rcases Nat.lt_or_ge w g with y | y
        · refine Or.inr ((hs0 g).mpr (fun y2 => c3 (Int32.lt_of_lt_of_le (nI_lt y (by omega)) (li_le hn hL hg y2))))
        · exact Or.inl y
  · rintro ⟨w', hw', ew, c1, c2, c3, c4, c5⟩
    obtain rfl : w' = w := ((nI_eq (by omega) (by omega)).mp ew).symm
    refine ⟨c2, c3, fun z => ?_, fun z => ?_, fun ⟨g, hg, g1, g2, g3, g4⟩ => ?_⟩
    · rcases hL.1 with y | ⟨u, hu, y, y1, y2⟩
      · rw [y] at z
        exact nI_m1 (by omega) (Int32.le_of_lt z)
      · have hc := c5 u hu
        unfold mo_cg at hc
        rw [e0] at hc
        rw [y, nI_ltI (by omega) (by omega)] at z
        rw [y] at y2
        rcases (hc (y1.trans c2.symm)).2 with x | x
        · omega
        · exact (hs0 u).mp x y2
    · rcases c4 with y | y
      · exact y
      · rcases hL.1 with x | ⟨u, hu, x, x1, x2⟩
        · exact absurd (z.trans x) (nI_nm1 (by omega))
        · rw [← z] at x2
          exact absurd x2 ((hs0 w').mp y)
    · have hc := c5 g hg
      unfold mo_cg at hc
      rw [e0, e1] at hc
      rw [nI_ltI (by omega) (by omega)] at g2
      rcases (hc (g3.trans c2.symm)).1 with x | x | x
      · omega
      · exact x g4
      · exact absurd (li_le hn hL hg ((hs g).mp x)) (Int32.not_le.mpr ((li_q hn hWv hq hq2 hg).mp g1))
/-- both ask the same of an end -/
theorem li_end (hS : li_S A I B J n lw) (hD : li_D A n G W k dp bg cr co B J b r) (hbg : ¬ bg = 0) {q : Nat} (hq : (if W dp + 1 < 0 then 0 else W dp + 1) = nI q) (hq2 : q < 2 ^ 31) : ¬ sc_req A n (G dp) q (cl_to A n (G dp)) ↔ mo_end B J n b (b + k) := by
  obtain ⟨⟨d1, d2, d3, d4⟩, ⟨d5, d6, d7, d8, d9, d10, d11⟩, -, d12⟩ := hD
  obtain ⟨hn, -, -, -, -, -, -, -, ⟨e0, e1, e2⟩, -, hE⟩ := hS
  obtain ⟨P, hO⟩ := d12 hbg
  have hps := li_ps hO d2
  obtain ⟨o1, o2, o3, o4, o5, o6, o7⟩ := hO
  have hL := o7 dp (Nat.le_refl _)
  have hWv := li_W hL
  have hs : ∀ g, 0 < mo_hs B J b (b + k) g ↔ li_hs B b k (P dp) (nI g) := fun g => li_hs_iff o4 g
  have hto : ∀ g, g < n → A 0 g = G dp → nI g < cl_to A n (G dp) := fun g hg hgg => by
    unfold cl_to
    by_cases z : G dp = -1
    · rw [if_pos z]; exact nI_lt hg (by omega)
    · rw [if_neg z]
      match dp, o6, z, hgg with
      | 0, _, z, _ => exact absurd o3 z
      | j + 1, o6, z, hgg =>
        obtain ⟨q, w, -, -, -, -, -, e6, hw, -⟩ := o6 j (by omega)
        obtain ⟨e, he, -, he2, -, -, he3⟩ := hE w hw
        rw [e6, nI_clamp (by omega), he]
        exact nI_lt (he3 g hg (hgg.trans e6)) (by omega)
  unfold mo_end
  rw [hps, e0, e1]
  constructor
  · intro c g hg g1 g2
    exact (hs g).mpr (li_ge hL hn hg g1 g2 (fun y => c ⟨g, hg, (li_q hn hWv hq hq2 hg).mpr y, hto g hg g1, g1, g2⟩))
  · rintro c ⟨g, hg, g1, g2, g3, g4⟩
    exact absurd (li_le hn hL hg ((hs g).mp (c g hg g3 g4))) (Int32.not_le.mpr ((li_q hn hWv hq hq2 hg).mp g1))
end LI
