/-! LINKS, 3: the record that has begun, from call to call. -/
section LJ
variable {A : Nat → Nat → Int32} {I : Nat → Int32} {B : Nat → Nat → Int32} {J : Nat → Int32} {n lw : Nat} {G W : Nat → Int32} {k dp : Nat} {bg cr co : Int32} {b r : Nat} {P : Nat → Int32}
theorem li_D.begin (h : li_D A n G W k dp bg cr co B J b r) (hn : n ≤ 48) (hbg : bg = 0) (hr : r < 128) : li_D A n (upd G 0 (-1)) (upd W 0 (-1)) 0 0 1 cr co (va_up B 7 (upd (B 7) r (J 9))) (va_up (va_up J 12 1) 13 (-1)) b r := by
  obtain ⟨⟨d1, d2, d3, d4⟩, ⟨d5, d6, d7, d8, d9, d10, d11⟩, d13, d12⟩ := h
  obtain ⟨rfl, d14⟩ := d3 hbg
  refine ⟨⟨d1, d2, fun z => absurd z (by decide), fun _ => hr⟩, ⟨d5, d6, ?_, d8, d9, rfl, Or.inr rfl⟩, fun t h1 h2 => by omega, fun _ => ⟨fun _ => -1, ?_⟩⟩
  · exact (if_pos rfl).trans d9
  · refine ⟨by decide, rfl, rfl, rfl, fun i j h1 h2 => by omega, fun j hj => absurd hj (Nat.not_lt_zero _), fun j hj => ?_⟩
    obtain rfl : j = 0 := by omega
    refine ⟨Or.inl rfl, fun t h1 h2 => by omega, fun g hgn _ _ hg => ?_⟩
    exact absurd (Int32.le_of_lt hg) (nI_m1 (by omega))
theorem li_D.drop (h : li_D A n G W k dp bg cr co B J b r) : li_D A n G W 0 0 0 cr co B (va_up (va_up (va_up J 12 0) 9 (B 7 r)) 13 (-1)) b r := by
  obtain ⟨⟨d1, d2, d3, d4⟩, ⟨d5, d6, d7, d8, d9, d10, d11⟩, d13, d12⟩ := h
  exact ⟨⟨d1, by omega, fun _ => ⟨rfl, rfl⟩, fun z => absurd rfl z⟩, ⟨d5, d6, d7, d8, d7, rfl, Or.inl rfl⟩, fun t h1 h2 => by omega, fun z => absurd rfl z⟩
/-- the last group ends -/
theorem li_D.inner (h : li_D A n G W k (dp + 1) bg cr co B J b r) (hbg : ¬ bg = 0) {q : Nat} (hq2 : q < b + k) (hq : J 13 = nI q) : li_D A n G W k dp bg cr co B (va_up J 13 (B 6 q)) b r := by
  obtain ⟨⟨d1, d2, d3, d4⟩, ⟨d5, d6, d7, d8, d9, d10, d11⟩, d13, d12⟩ := h
  obtain ⟨P, o1, o2, o3, o4, o5, o6, o7⟩ := d12 hbg
  refine ⟨⟨d1, d2, fun z => absurd z hbg, d4⟩, ⟨d5, d6, d7, d8, d9, d10, d11⟩, d13, fun _ => ⟨P, by omega, o2, o3, ?_, fun i j h1 h2 => o5 i j h1 (by omega), fun j hj => o6 j (by omega), fun j hj => o7 j (by omega)⟩⟩
  obtain ⟨q', w, e1, e2, e3, e4, -⟩ := o6 dp (by omega)
  have : q = q' := (nI_eq (by omega) (by omega)).mp (hq.symm.trans (o4.trans e1))
  rw [this]
  exact e4
/-- the record ends -/
theorem li_D.outer (h : li_D A n G W k 0 bg cr co B J b r) (hbg : ¬ bg = 0) : li_D A n G W 0 0 0 (cr + 1) (co + nI k) (va_up B 7 (upd (B 7) (r + 1) (nI (b + k)))) (va_up (va_up J 12 0) 11 (nI (r + 1))) (b + k) (r + 1) := by
  obtain ⟨⟨d1, d2, d3, d4⟩, ⟨d5, d6, d7, d8, d9, d10, d11⟩, d13, d12⟩ := h
  obtain ⟨P, o1, o2, o3, o4, o5, o6, o7⟩ := d12 hbg
  have := d4 hbg
  refine ⟨⟨by omega, d2, fun _ => ⟨rfl, ?_⟩, fun z => absurd rfl z⟩, ⟨?_, rfl, if_pos rfl, ?_, d9, rfl, Or.inl rfl⟩, fun t h1 h2 => by omega, fun z => absurd rfl z⟩
  · exact o4.trans o2
  · rw [d5, nI_1]
  · rw [d8, nI_add]
/-- an occurrence of w comes into the group that stands at depth dp -/
theorem li_come (hn : n ≤ 48) (h : li_D A n G W k dp bg cr co B J b r) (hbg : ¬ bg = 0) (hk : b + k < 2048) {w : Nat} {v : Int32} (hw : w < n) (hps : A 0 w = G dp) (hge : ¬ nI w < W dp) (hreq : ∀ P : Nat → Int32, J 13 = P dp → ∀ g, g < n → A 0 g = G dp → A 1 g = 0 → g < w → li_hs B b k (P dp) (nI g)) :
    li_D A n G (upd W dp (nI w)) (k + 1) dp bg cr co (va_up (va_up (va_up B 4 (upd (B 4) (b + k) (nI w))) 5 (upd (B 5) (b + k) v)) 6 (upd (B 6) (b + k) (J 13))) (va_up J 9 (nI (b + k + 1))) b r := by
  obtain ⟨⟨d1, d2, d3, d4⟩, ⟨d5, d6, d7, d8, d9, d10, d11⟩, d13, d12⟩ := h
  obtain ⟨P, o1, o2, o3, o4, o5, o6, o7⟩ := d12 hbg
  have n4 : ∀ t, t < b + k → upd (B 4) (b + k) (nI w) t = B 4 t := fun t ht => if_neg (by omega)
  have n6 : ∀ t, t < b + k → upd (B 6) (b + k) (J 13) t = B 6 t := fun t ht => if_neg (by omega)
  have m4 : upd (B 4) (b + k) (nI w) (b + k) = nI w := if_pos rfl
  have m6 : upd (B 6) (b + k) (J 13) (b + k) = J 13 := if_pos rfl
  have hsup : ∀ p x, li_hs B b k p x → li_hs (va_up (va_up (va_up B 4 (upd (B 4) (b + k) (nI w))) 5 (upd (B 5) (b + k) v)) 6 (upd (B 6) (b + k) (J 13))) b (k + 1) p x := fun p x ⟨t, t1, t2, t3, t4⟩ => ⟨t, t1, by omega, (n4 t t2).trans t3, (n6 t t2).trans t4⟩
  refine ⟨⟨d1, by omega, fun z => absurd z hbg, d4⟩, ⟨d5, d6, d7, d8, rfl, d10, d11⟩, fun t h1 h2 => ?_, fun _ => ⟨P, o1, o2, o3, o4, o5, fun j hj => ?_, fun j hj => ?_⟩⟩
  · show upd (B 6) (b + k) (J 13) t = -1 ∨ ∃ q, b ≤ q ∧ q < t ∧ upd (B 6) (b + k) (J 13) t = nI q
    by_cases z : t = b + k
    · rw [z, m6, o4]
      match dp, o6 with
      | 0, _ => exact Or.inl o2
      | j + 1, o6 =>
        obtain ⟨q, w', e1, e2, e3, -⟩ := o6 j (by omega)
        exact Or.inr ⟨q, e2, e3, e1⟩
    · rw [n6 t (by omega)]
      exact d13 t h1 (by omega)
  · obtain ⟨q, w', e1, e2, e3, e4, e5, e6⟩ := o6 j hj
    exact ⟨q, w', e1, e2, by omega, (n6 q e3).trans e4, (n4 q e3).trans e5, e6⟩
  · by_cases z : j = dp
    · subst z
      obtain ⟨l1, l2, l3⟩ := o7 j (Nat.le_refl _)
      rw [show upd W j (nI w) j = nI w from if_pos rfl]
      refine ⟨Or.inr ⟨w, hw, rfl, hps, b + k, by omega, by omega, m4, m6.trans o4⟩, fun t h1 h2 h3 => ?_, fun g hg g1 g2 g3 => ?_⟩
      · by_cases y : t = b + k
        · exact ⟨w, hw, by rw [y]; exact m4, Int32.le_refl _⟩
        · obtain ⟨u, hu, u1, u2⟩ := l2 t h1 (by omega) ((n6 t (by omega)).symm.trans h3)
          exact ⟨u, hu, (n4 t (by omega)).trans u1, Int32.le_trans u2 (Int32.not_lt.mp hge)⟩
      · rw [nI_ltI (by omega) (by omega)] at g3
        exact hsup _ _ (hreq P o4 g hg g1 g2 g3)
    · obtain ⟨l1, l2, l3⟩ := o7 j hj
      rw [show upd W dp (nI w) j = W j from if_neg z]
      refine ⟨?_, fun t h1 h2 h3 => ?_, fun g hg g1 g2 g3 => hsup _ _ (l3 g hg g1 g2 g3)⟩
      · rcases l1 with y | ⟨u, hu, y1, y2, y3⟩
        · exact Or.inl y
        · exact Or.inr ⟨u, hu, y1, y2, hsup _ _ y3⟩
      · by_cases y : t = b + k
        · rw [y] at h3
          have h3' : J 13 = P j := m6.symm.trans h3
          exact absurd (h3'.symm.trans o4) (o5 j dp (by omega) (Nat.le_refl _))
        · obtain ⟨u, hu, u1, u2⟩ := l2 t h1 (by omega) ((n6 t (by omega)).symm.trans h3)
          exact ⟨u, hu, (n4 t (by omega)).trans u1, u2⟩
/-- the occurrence that came last is a group, and stands at depth dp + 1 -/
theorem li_D.enter (hn : n ≤ 48) (h : li_D A n G W (k + 1) dp bg cr co B J b r) (hbg : ¬ bg = 0) {w : Nat} (hw : w < n) (h4 : B 4 (b + k) = nI w) (h6 : B 6 (b + k) = J 13) (hg : A 5 w = -1) (h2 : A 2 w = nI (dp + 1)) (hdp : dp < 16) : li_D A n (upd G (dp + 1) (nI w)) (upd W (dp + 1) (-1)) (k + 1) (dp + 1) bg cr co B (va_up J 13 (nI (b + k))) b r := by
  obtain ⟨⟨d1, d2, d3, d4⟩, ⟨d5, d6, d7, d8, d9, d10, d11⟩, d13, d12⟩ := h
  obtain ⟨P, o1, o2, o3, o4, o5, o6, o7⟩ := d12 hbg
  have pn : ∀ j, j ≤ dp → upd P (dp + 1) (nI (b + k)) j = P j := fun j hj => if_neg (by omega)
  have pm : upd P (dp + 1) (nI (b + k)) (dp + 1) = nI (b + k) := if_pos rfl
  have pne : ∀ j, j ≤ dp → ¬ P j = nI (b + k) := fun j hj y => by
    match j, hj with
    | 0, _ => exact nI_nm1 (by omega) (y.symm.trans o2)
    | j + 1, hj =>
      obtain ⟨q, w', e1, e2, e3, e4, -⟩ := o6 j (by omega)
      have := (nI_eq (by omega) (by omega)).mp (e1.symm.trans y)
      subst this
      have : P dp = P j := by rw [← o4, ← h6, e4]
      exact o5 j dp (by omega) (Nat.le_refl _) this.symm
  refine ⟨⟨d1, d2, fun z => absurd z hbg, d4⟩, ⟨d5, d6, d7, d8, d9, d10, d11⟩, d13, fun _ => ⟨upd P (dp + 1) (nI (b + k)), by omega, (pn 0 (by omega)).trans o2, (if_neg (by omega)).trans o3, pm.symm, fun i j h1 h2 => ?_, fun j hj => ?_, fun j hj => ?_⟩⟩
  · rw [pn i (by omega)]
    by_cases z : j = dp + 1
    · rw [z, pm]
      exact pne i (by omega)
    · rw [pn j (by omega)]
      exact o5 i j h1 (by omega)
  · by_cases z : j = dp
    · rw [z]
      refine ⟨b + k, w, pm, by omega, by omega, ?_, h4, if_pos rfl, hw, hg, h2⟩
      rw [pn dp (Nat.le_refl _), h6, o4]
    · obtain ⟨q, w', e1, e2, e3, e4, e5, e6, e7⟩ := o6 j (by omega)
      refine ⟨q, w', ?_, e2, e3, ?_, e5, ?_, e7⟩
      · rw [pn (j + 1) (by omega)]; exact e1
      · rw [pn j (by omega)]; exact e4
      · exact (if_neg (by omega)).trans e6
  · by_cases z : j = dp + 1
    · rw [z, pm, show upd W (dp + 1) (-1) (dp + 1) = -1 from if_pos rfl]
      refine ⟨Or.inl rfl, fun t h1 h2 h3 => ?_, fun g hgn _ _ hg => absurd (Int32.le_of_lt hg) (nI_m1 (by omega))⟩
      rcases d13 t h1 h2 with y | ⟨q, q1, q2, y⟩
      · exact absurd (h3.symm.trans y) (nI_nm1 (by omega))
      · have := (nI_eq (by omega) (by omega)).mp (y.symm.trans h3)
        omega
    · rw [pn j (by omega), show upd W (dp + 1) (-1) j = W j from if_neg (by omega), show upd G (dp + 1) (nI w) j = G j from if_neg (by omega)]
      exact o7 j (by omega)
/-- how deep an opened field lies -/
theorem li_deep (hS : li_S A I B J n lw) (h : li_D A n G W k dp bg cr co B J b r) (hbg : ¬ bg = 0) {w : Nat} (hw : w < n) (hps : A 0 w = G dp) : dp < 16 ∧ A 2 w = nI (dp + 1) := by
  obtain ⟨hn, -, -, -, -, -, hup, hde, -⟩ := hS
  obtain ⟨-, -, -, d12⟩ := h
  obtain ⟨P, o1, o2, o3, o4, o5, o6, o7⟩ := d12 hbg
  obtain ⟨q, hq, e, z⟩ := hde w hw
  match dp, o6, hps, o1 with
  | 0, _, hps, _ =>
    rw [o3] at hps
    rcases z with ⟨-, z⟩ | ⟨p, hp, z, -⟩
    · rw [z] at e
      exact ⟨by decide, e⟩
    · exact absurd (z.symm.trans hps) (nI_nm1 (by omega))
  | j + 1, o6, hps, o1 =>
    obtain ⟨t, u, -, -, -, -, -, e6, hu, -, e8⟩ := o6 j (by omega)
    rw [e6] at hps
    rcases z with ⟨z, -⟩ | ⟨p, hp, z, z2, z3⟩
    · exact absurd (hps.symm.trans z) (nI_nm1 (by omega))
    · have : p = u := (nI_eq (by omega) (by omega)).mp (z.symm.trans hps)
      subst this
      have := (nI_eq (by omega) (by omega)).mp (z3.symm.trans e8)
      subst this
      exact ⟨by omega, e⟩
end LJ
