/-! LINKS, 1: the groups around a field, and the two schemas. li_an par m f w: w is on the way from f up, in m steps; li_en: the way ends in m steps. -/
def li_an (par : Nat → Int32) : Nat → Int32 → Nat → Prop
  | 0, _, _ => False
  | m + 1, f, w => ¬ f = -1 ∧ (f.toNatClampNeg = w ∨ li_an par m (par f.toNatClampNeg) w)
def li_en (par : Nat → Int32) : Nat → Int32 → Prop
  | 0, f => f = -1
  | m + 1, f => f = -1 ∨ li_en par m (par f.toNatClampNeg)
theorem li_en_s {par : Nat → Int32} : ∀ (m : Nat) (f : Int32), li_en par m f → li_en par (m + 1) f
  | 0, _, h => Or.inl h
  | m + 1, _, h => h.elim Or.inl (fun z => Or.inr (li_en_s m _ z))
theorem li_en_le {par : Nat → Int32} {m : Nat} {f : Int32} (h : li_en par m f) : ∀ k, li_en par (m + k) f
  | 0 => h
  | k + 1 => li_en_s (m + k) f (li_en_le h k)
theorem li_an_s {par : Nat → Int32} : ∀ (m : Nat) (f : Int32) (w : Nat), li_en par m f → (li_an par (m + 1) f w ↔ li_an par m f w)
  | 0, _, _, h => ⟨fun z => absurd h z.1, fun z => z.elim⟩
  | m + 1, _, w, h => ⟨fun z => ⟨z.1, z.2.imp id (fun y => (li_an_s m _ w (Or.resolve_left h z.1)).mp y)⟩, fun z => ⟨z.1, z.2.imp id (fun y => (li_an_s m _ w (Or.resolve_left h z.1)).mpr y)⟩⟩
theorem li_an_le {par : Nat → Int32} {m : Nat} {f : Int32} {w : Nat} (h : li_en par m f) : ∀ k, li_an par (m + k) f w ↔ li_an par m f w
  | 0 => Iff.rfl
  | k + 1 => (li_an_s (m + k) f w (li_en_le h k)).trans (li_an_le h k)
theorem li_an_eq {par : Nat → Int32} {m k : Nat} {f : Int32} {w : Nat} (h : li_en par m f) (h2 : li_en par k f) : li_an par m f w ↔ li_an par k f w := by
  rw [← li_an_le h k, ← li_an_le h2 m, Nat.add_comm]
theorem li_en_up {par : Nat → Int32} {n : Nat} (hup : mo_up par n) (hn : n ≤ 48) : ∀ (m : Nat) (f : Int32), (f = -1 ∨ ∃ p, p < m ∧ f = nI p) → m ≤ n → li_en par m f
  | 0, _, h, _ => h.resolve_right (fun ⟨_, z, _⟩ => absurd z (Nat.not_lt_zero _))
  | m + 1, _, h, hm => by
    rcases h with z | ⟨p, hp, z⟩
    · exact Or.inl z
    · refine Or.inr ?_
      rw [z, nI_clamp (by omega)]
      refine li_en_up hup hn m _ ?_ (by omega)
      rcases hup p (by omega) with y | ⟨q, hq, y⟩
      · exact Or.inl y
      · exact Or.inr ⟨q, by omega, y⟩
theorem li_en_48 {par : Nat → Int32} {n q : Nat} (hup : mo_up par n) (hn : n ≤ 48) (hq : q < n) : li_en par 48 (nI q) := by
  have := li_en_le (li_en_up hup hn n (nI q) (Or.inr ⟨q, hq, rfl⟩) (Nat.le_refl _)) (48 - n)
  rw [show n + (48 - n) = 48 by omega] at this
  exact this
theorem li_en_de {par dep : Nat → Int32} {n : Nat} (hde : mo_de par dep n) (hn : n ≤ 48) : ∀ (k q : Nat), q < n → dep q = nI k → k ≤ 16 → li_en par k (nI q)
  | 0, q, hq, h, _ => by
    obtain ⟨k, hk, e, -⟩ := hde q hq
    have := (nI_eq (a := 0) (by decide) (by omega)).mp (h.symm.trans e)
    omega
  | k + 1, q, hq, h, hk => by
    obtain ⟨k2, hk2, e, z⟩ := hde q hq
    have ek : k + 1 = k2 + 1 := (nI_eq (by omega) (by omega)).mp (h.symm.trans e)
    obtain rfl : k2 = k := by omega
    refine Or.inr ?_
    rw [nI_clamp (by omega)]
    rcases z with ⟨z1, z2⟩ | ⟨p, hp, z1, z2, z3⟩
    · rw [z1, z2]; exact rfl
    · rw [z1]
      exact li_en_de hde hn k2 p (by omega) z3 (by omega)
/-- the reference's way of asking -/
theorem li_ch {par : Nat → Int32} {n w : Nat} (hup : mo_up par n) (hn : n ≤ 48) (hw : w < 48) : ∀ (m : Nat) (f : Int32), (f = -1 ∨ ∃ p, p < m ∧ f = nI p) → m ≤ n → (mo_ch par (nI w) m f = nI w ↔ li_an par m f w)
  | 0, f, h, _ => by
    have e : f = -1 := h.resolve_right (fun ⟨_, z, _⟩ => absurd z (Nat.not_lt_zero _))
    rw [e]
    exact ⟨fun z => absurd z.symm (nI_nm1 (by omega)), fun z => z.elim⟩
  | m + 1, f, h, hm => by
    show (if f = -1 ∨ f = nI w then f else mo_ch par (nI w) m (par f.toNatClampNeg)) = nI w ↔ ¬ f = -1 ∧ (f.toNatClampNeg = w ∨ li_an par m (par f.toNatClampNeg) w)
    rcases h with z | ⟨p, hp, z⟩
    · rw [if_pos (Or.inl z), z]
      exact ⟨fun y => absurd y.symm (nI_nm1 (by omega)), fun y => absurd rfl y.1⟩
    · subst z
      rw [nI_clamp (by omega)]
      by_cases y : nI p = nI w
      · rw [if_pos (Or.inr y)]
        exact ⟨fun _ => ⟨nI_nm1 (by omega), Or.inl ((nI_eq (by omega) (by omega)).mp y)⟩, fun _ => y⟩
      · rw [if_neg (fun q => q.elim (nI_nm1 (by omega)) y), li_ch hup hn hw m (par p) ?_ (by omega)]
        · refine ⟨fun q => ⟨nI_nm1 (by omega), Or.inr q⟩, fun q => q.2.resolve_left (fun r => y (by rw [r]))⟩
        · rcases hup p (by omega) with q | ⟨g, hg, q⟩
          · exact Or.inl q
          · exact Or.inr ⟨g, by omega, q⟩
/-- what stretch does to the ends -/
theorem li_st {par : Nat → Int32} {v : Int32} {s : Int64} : ∀ (m : Nat) (f : Int32) (x : (Nat → Int32) × (Nat → Int64)), (∀ g, li_an par m f g → (sc_st par v s m f x).1 g = v) ∧ (∀ g, ¬ li_an par m f g → (sc_st par v s m f x).1 g = x.1 g)
  | 0, _, _ => ⟨fun _ z => z.elim, fun _ _ => rfl⟩
  | m + 1, f, x => by
    have eS : sc_st par v s (m + 1) f x = if f = -1 then x else sc_st par v s m (par f.toNatClampNeg) (upd x.1 f.toNatClampNeg v, vp_updL x.2 f.toNatClampNeg (x.2 f.toNatClampNeg ||| s)) := rfl
    rw [eS]
    by_cases z : f = -1
    · rw [if_pos z]
      exact ⟨fun g y => absurd z y.1, fun _ _ => rfl⟩
    · rw [if_neg z]
      obtain ⟨h1, h2⟩ := li_st (par := par) (v := v) (s := s) m (par f.toNatClampNeg) (upd x.1 f.toNatClampNeg v, vp_updL x.2 f.toNatClampNeg (x.2 f.toNatClampNeg ||| s))
      refine ⟨fun g y => ?_, fun g y => ?_⟩
      · by_cases q : li_an par m (par f.toNatClampNeg) g
        · exact h1 g q
        · rw [h2 g q]
          exact if_pos (y.2.resolve_right q).symm
      · rw [h2 g (fun q => y ⟨z, Or.inr q⟩)]
        exact if_neg (fun q => y ⟨z, Or.inl q.symm⟩)
/-- something on the way has w for its group -/
theorem li_kid {par : Nat → Int32} {n : Nat} (hup : mo_up par n) (hn : n ≤ 48) : ∀ (m q w : Nat), q < n → li_an par m (nI q) w → q = w ∨ ∃ g, g ≤ q ∧ par g = nI w
  | 0, _, _, _, h => h.elim
  | m + 1, q, w, hq, h => by
    obtain ⟨-, h2⟩ := h
    rw [nI_clamp (by omega)] at h2
    rcases h2 with z | z
    · exact Or.inl z
    · rcases hup q hq with y | ⟨p, hp, y⟩
      · rw [y] at z
        match m, z with
        | m + 1, z => exact absurd rfl z.1
      · rw [y] at z
        rcases li_kid hup hn m p w (by omega) z with r | ⟨g, hg, r⟩
        · exact Or.inr ⟨q, Nat.le_refl _, by rw [y, r]⟩
        · exact Or.inr ⟨g, by omega, r⟩
theorem li_an_of_le {par : Nat → Int32} {n : Nat} (hup : mo_up par n) (hn : n ≤ 48) : ∀ (m q w : Nat), q < n → li_an par m (nI q) w → w ≤ q
  | 0, _, _, _, h => h.elim
  | m + 1, q, w, hq, h => by
    obtain ⟨-, h2⟩ := h
    rw [nI_clamp (by omega)] at h2
    rcases h2 with z | z
    · omega
    · rcases hup q hq with y | ⟨p, hp, y⟩
      · rw [y] at z
        match m, z with
        | m + 1, z => exact absurd rfl z.1
      · rw [y] at z
        have := li_an_of_le hup hn m p w (by omega) z
        omega
/-- the way from an old field does not see the new one -/
theorem li_an_ext {par : Nat → Int32} {n w : Nat} {x : Int32} (hup : mo_up par n) (hn : n ≤ 48) : ∀ (m : Nat) (f : Int32), (f = -1 ∨ ∃ p, p < n ∧ f = nI p) → (li_an (upd par n x) m f w ↔ li_an par m f w)
  | 0, _, _ => Iff.rfl
  | m + 1, f, h => by
    show (¬ f = -1 ∧ (f.toNatClampNeg = w ∨ li_an (upd par n x) m (upd par n x f.toNatClampNeg) w)) ↔ (¬ f = -1 ∧ (f.toNatClampNeg = w ∨ li_an par m (par f.toNatClampNeg) w))
    rcases h with z | ⟨p, hp, z⟩
    · exact ⟨fun y => absurd z y.1, fun y => absurd z y.1⟩
    · rw [z, nI_clamp (by omega), show upd par n x p = par p from if_neg (by omega), li_an_ext hup hn m (par p) ?_]
      rcases hup p hp with y | ⟨q, hq, y⟩
      · exact Or.inl y
      · exact Or.inr ⟨q, by omega, y⟩
theorem li_lv_ext {G : Nat → Int32} {n : Nat} {x : Int32} : ∀ f, f ≤ n → mo_lv (upd G n x) f = mo_lv G f
  | 0, _ => rfl
  | f + 1, h => by
    show mo_lv (upd G n x) f + (if upd G n x f = 0 then 1 else 0) = mo_lv G f + (if G f = 0 then 1 else 0)
    rw [li_lv_ext f (by omega), show upd G n x f = G f from if_neg (by omega)]
/-- what an end is -/
def li_E (par : Nat → Int32) (n f : Nat) (x : Int32) : Prop := ∃ e, x = nI e ∧ f < e ∧ e ≤ n ∧ (e = n ↔ li_an par 48 (nI (n - 1)) f) ∧ (e = f + 1 ↔ ¬ ∃ g, g < n ∧ par g = nI f) ∧ ∀ g, g < n → par g = nI f → g < e
/-- the two schemas: Striping's (rows A, numbers I), the reference's (B, J) -/
def li_S (A : Nat → Nat → Int32) (I : Nat → Int32) (B : Nat → Nat → Int32) (J : Nat → Int32) (n lw : Nat) : Prop := n ≤ 48 ∧ I 8 = nI n ∧ J 4 = nI n ∧ I 10 = J 5 ∧ I 9 = nI lw ∧ lw = mo_lv (B 3) n ∧ mo_up (A 0) n ∧ mo_de (A 0) (A 2) n ∧ (B 0 = A 0 ∧ B 1 = A 1 ∧ B 2 = A 2) ∧ (∀ f, f < n → A 5 f = if B 3 f = 0 then nI (mo_lv (B 3) f) else -1) ∧ ∀ f, f < n → li_E (A 0) n f (A 6 f)
theorem li_grp {A : Nat → Nat → Int32} {I : Nat → Int32} {B : Nat → Nat → Int32} {J : Nat → Int32} {n lw w : Nat} (h : li_S A I B J n lw) (hw : w < n) : A 5 w = -1 ↔ ¬ B 3 w = 0 := by
  obtain ⟨hn, -, -, -, -, -, -, -, -, h5, -⟩ := h
  have e := h5 w hw
  have hl := mo_lv_le (B 3) w
  by_cases z : B 3 w = 0
  · rw [if_pos z] at e
    rw [e]
    exact ⟨fun y => absurd y (nI_nm1 (by omega)), fun y => absurd z y⟩
  · rw [if_neg z] at e
    exact ⟨fun _ => z, fun _ => e⟩
/-- both ask the same of a field -/
theorem li_yes {A : Nat → Nat → Int32} {I : Nat → Int32} {B : Nat → Nat → Int32} {J : Nat → Int32} {n lw : Nat} {p kd : Int32} (h : li_S A I B J n lw) : sc_yes A I n p kd ↔ J 5 = 0 ∧ n < 48 ∧ ¬ kd < 0 ∧ ¬ 2 < kd ∧ (p = -1 ∨ ∃ w, w < n ∧ p = nI w ∧ ¬ B 3 w = 0 ∧ mo_ch (B 0) p n (nI n - 1) = p ∧ ¬ B 2 w = 16) := by
  have hg := fun w hw => li_grp (w := w) h hw
  obtain ⟨hn, -, -, hr, -, -, hup, hde, ⟨e0, e1, e2⟩, h5, hE⟩ := h
  unfold sc_yes sc_may
  rw [hr, e0, e2, Int32.not_lt (a := 2) (b := kd)]
  refine and_congr_right fun _ => and_congr_right fun _ => and_congr_right fun _ => and_congr_right fun _ => or_congr_right ?_
  refine exists_congr fun w => and_congr_right fun hw => and_congr_right fun hp => ?_
  subst hp
  rw [hg w hw]
  refine and_congr_right fun _ => ?_
  obtain ⟨e, he, -, hen, hc, -⟩ := hE w hw
  obtain ⟨k, hk, ek, -⟩ := hde w hw
  obtain ⟨n', rfl⟩ : ∃ n', n = n' + 1 := ⟨n - 1, by omega⟩
  rw [nI_pred, li_ch hup hn (by omega) (n' + 1) (nI n') (Or.inr ⟨n', by omega, rfl⟩) (Nat.le_refl _), he, nI_eq (by omega) (by omega), hc, ek]
  have a1 : li_an (A 0) 48 (nI (n' + 1 - 1)) w ↔ li_an (A 0) (n' + 1) (nI n') w := by
    rw [Nat.add_sub_cancel]
    exact li_an_eq (li_en_48 hup hn (by omega)) (li_en_up hup hn (n' + 1) _ (Or.inr ⟨n', by omega, rfl⟩) (Nat.le_refl _))
  rw [a1]
  refine and_congr_right fun _ => ?_
  rw [show (16 : Int32) = nI 16 from rfl, nI_ltI (by omega) (by decide), nI_eq (by omega) (by decide)]
  omega
/-- a field more in both -/
theorem li_S.add {A : Nat → Nat → Int32} {S : Nat → Int64} {I : Nat → Int32} {B : Nat → Nat → Int32} {J : Nat → Int32} {n lw : Nat} {p kd gb : Int32} (h : li_S A I B J n lw) (hy : sc_yes A I n p kd) :
    li_S (va_up (sc_A1 A n lw p kd gb) 6 (sc_st1 A S n lw p gb).1) (if gb = 0 then va_up (va_up I 8 (nI (n + 1))) 9 (nI (lw + 1)) else va_up I 8 (nI (n + 1))) (va_up (va_up (va_up (va_up B 0 (upd (B 0) n p)) 1 (upd (B 1) n kd)) 3 (upd (B 3) n gb)) 2 (upd (B 2) n (if p = -1 then 1 else B 2 p.toNatClampNeg + 1))) (va_up J 4 (nI (n + 1))) (n + 1) (if gb = 0 then lw + 1 else lw) := by
  have hy2 := hy.2.2.2.2
  obtain ⟨hn, hI8, hJ4, hr, hI9, hlw, hup, hde, ⟨e0, e1, e2⟩, h5, hE⟩ := h
  have hp : p = -1 ∨ ∃ w, w < n ∧ p = nI w := by
    rcases hy2 with z | ⟨w, hw, z, -⟩
    · exact Or.inl z
    · exact Or.inr ⟨w, hw, z⟩
  have hn48 := hy.2.1
  have A0 : (va_up (sc_A1 A n lw p kd gb) 6 (sc_st1 A S n lw p gb).1) 0 = upd (A 0) n p := rfl
  have A2 : (va_up (sc_A1 A n lw p kd gb) 6 (sc_st1 A S n lw p gb).1) 2 = upd (A 2) n (sc_of A 2 p + 1) := rfl
  have A6 : (va_up (sc_A1 A n lw p kd gb) 6 (sc_st1 A S n lw p gb).1) 6 = (sc_st1 A S n lw p gb).1 := rfl
  have hup1 : mo_up (upd (A 0) n p) (n + 1) := sc_up_ext hup hp
  have hde1 : mo_de (upd (A 0) n p) (upd (A 2) n (sc_of A 2 p + 1)) (n + 1) := by
    intro f hf
    by_cases z : f = n
    · rw [z, show upd (A 0) n p n = p from if_pos rfl, show upd (A 2) n (sc_of A 2 p + 1) n = sc_of A 2 p + 1 from if_pos rfl]
      unfold sc_of
      rcases hy2 with q | ⟨w, hw, q, -, -, qd⟩
      · rw [if_pos q]
        exact ⟨0, by decide, rfl, Or.inl ⟨q, rfl⟩⟩
      · obtain ⟨k, hk, ek, -⟩ := hde w hw
        rw [q, if_neg (nI_nm1 (by omega)), nI_clamp (by omega), ek, nI_1]
        rw [ek, show (16 : Int32) = nI 16 from rfl, nI_ltI (by omega) (by decide)] at qd
        refine ⟨k + 1, by omega, rfl, Or.inr ⟨w, by omega, rfl, by omega, ?_⟩⟩
        exact (if_neg (by omega)).trans ek
    · obtain ⟨k, hk, ek, q⟩ := hde f (by omega)
      rw [show upd (A 0) n p f = A 0 f from if_neg z, show upd (A 2) n (sc_of A 2 p + 1) f = A 2 f from if_neg z]
      refine ⟨k, hk, ek, ?_⟩
      rcases q with q | ⟨g, hg, q1, q2, q3⟩
      · exact Or.inl q
      · exact Or.inr ⟨g, hg, q1, q2, (if_neg (by omega)).trans q3⟩
  have hl5 : ∀ f, f ≤ n → mo_lv (upd (B 3) n gb) f = mo_lv (B 3) f := fun f hf => li_lv_ext f hf
  refine ⟨by omega, ?_, rfl, ?_, ?_, ?_, hup1, ?_, ⟨?_, ?_, ?_⟩, fun f hf => ?_, fun f hf => ?_⟩
  · split <;> rfl
  · split <;> exact hr
  · split
    · rfl
    · exact hI9
  · show _ = mo_lv (upd (B 3) n gb) n + (if upd (B 3) n gb n = 0 then 1 else 0)
    rw [hl5 n (Nat.le_refl _), show upd (B 3) n gb n = gb from if_pos rfl, ← hlw]
    split <;> rfl
  · rw [A0, A2]; exact hde1
  · show upd (B 0) n p = _
    rw [e0]; rfl
  · show upd (B 1) n kd = _
    rw [e1]; rfl
  · show upd (B 2) n _ = _
    rw [e2, A2]
    unfold sc_of
    by_cases z : p = -1
    · rw [if_pos z, if_pos z]; rfl
    · rw [if_neg z, if_neg z]
  · show upd (A 5) n (if gb = 0 then nI lw else -1) f = if upd (B 3) n gb f = 0 then nI (mo_lv (upd (B 3) n gb) f) else -1
    rw [hl5 f (by omega)]
    by_cases z : f = n
    · rw [z, show upd (A 5) n (if gb = 0 then nI lw else -1) n = _ from if_pos rfl, show upd (B 3) n gb n = gb from if_pos rfl, hlw]
    · rw [show upd (A 5) n (if gb = 0 then nI lw else -1) f = A 5 f from if_neg z, show upd (B 3) n gb f = B 3 f from if_neg z]
      exact h5 f (by omega)
  · rw [A0, A6]
    have hen16 : li_en (upd (A 0) n p) 16 (nI n) := by
      obtain ⟨k, hk, ek, -⟩ := hde1 n (by omega)
      have := li_en_le (li_en_de hde1 (by omega) (k + 1) n (by omega) ek (by omega)) (16 - (k + 1))
      rw [show k + 1 + (16 - (k + 1)) = 16 by omega] at this
      exact this
    have hen48 : li_en (upd (A 0) n p) 48 (nI n) := li_en_48 hup1 (by omega) (by omega)
    obtain ⟨s1, s2⟩ := li_st (par := upd (A 0) n p) (v := nI n + 1) (s := if gb = 0 then sc_bit lw else 0) 16 (nI n) (A 6, S)
    have kid : ∀ w, li_an (upd (A 0) n p) 16 (nI n) w → n = w ∨ ∃ g, g ≤ n ∧ upd (A 0) n p g = nI w := fun w z => li_kid hup1 (by omega) 16 n w (by omega) z
    have an48 : ∀ w, li_an (upd (A 0) n p) 48 (nI n) w ↔ li_an (upd (A 0) n p) 16 (nI n) w := fun w => li_an_eq hen48 hen16
    have par_an : ∀ w, p = nI w → w < n → li_an (upd (A 0) n p) 16 (nI n) w := fun w z hw => by
      refine ⟨nI_nm1 (by omega), Or.inr ?_⟩
      rw [nI_clamp (by omega), show upd (A 0) n p n = p from if_pos rfl, z]
      exact ⟨nI_nm1 (by omega), Or.inl (nI_clamp (by omega))⟩
    by_cases z : li_an (upd (A 0) n p) 16 (nI n) f
    · refine ⟨n + 1, (s1 f z).trans (nI_1 n), by omega, Nat.le_refl _, ⟨fun _ => (an48 f).mpr z, fun _ => rfl⟩, ⟨fun y => ?_, fun y => ?_⟩, fun g hg _ => hg⟩
      · rintro ⟨g, hg, q⟩
        obtain rfl : f = n := by omega
        rcases hup1 g hg with r | ⟨t, ht, r⟩
        · exact nI_nm1 (by omega) (q.symm.trans r)
        · have := (nI_eq (by omega) (by omega)).mp (q.symm.trans r)
          omega
      · rcases kid f z with q | ⟨g, hg, q⟩
        · rw [q]
        · exact absurd ⟨g, by omega, q⟩ y
    · have hfn : f < n := by
        rcases Nat.lt_or_ge f n with y | y
        · exact y
        · exfalso
          refine z ⟨nI_nm1 (by omega), Or.inl ?_⟩
          rw [nI_clamp (by omega)]
          omega
      have hpf : ¬ p = nI f := fun y => z (par_an f y hfn)
      obtain ⟨e, he, h1, h2, h3, h4, h6⟩ := hE f hfn
      refine ⟨e, (s2 f z).trans he, h1, by omega, ⟨fun y => by omega, fun y => absurd ((an48 f).mp y) z⟩, ?_, fun g hg q => ?_⟩
      · rw [h4]
        refine not_congr ⟨fun ⟨g, hg, q⟩ => ⟨g, by omega, (if_neg (by omega)).trans q⟩, fun ⟨g, hg, q⟩ => ?_⟩
        by_cases y : g = n
        · rw [y, show upd (A 0) n p n = p from if_pos rfl] at q
          exact absurd q hpf
        · exact ⟨g, by omega, by rw [show upd (A 0) n p g = A 0 g from if_neg y] at q; exact q⟩
      · by_cases y : g = n
        · rw [y, show upd (A 0) n p n = p from if_pos rfl] at q
          exact absurd q hpf
        · rw [show upd (A 0) n p g = A 0 g from if_neg y] at q
          exact h6 g (by omega) q
