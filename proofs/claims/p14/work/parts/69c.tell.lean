/-! A RECORD PUT TOGETHER, 2: the reference's events, group by group. -/
/-- the events from occurrence k on, i being open -/
def ev_L (B : Nat → Nat → Int32) (wn : Nat → Int32) (e k : Nat) (i : Int32) : List as_E := as_ev (B 4) (B 6) (B 5) (B 3) wn 2048 (e - k) k i
/-- what is wanted is wanted with what lies around it -/
def wn_up (B : Nat → Nat → Int32) (wn : Nat → Int32) (b e : Nat) : Prop := ∀ q, b ≤ q → q < e → ¬ wn (wk_f B q) = 0 → B 6 q = -1 ∨ ∃ p, b ≤ p ∧ p < q ∧ B 6 q = nI p ∧ ¬ wn (wk_f B p) = 0
section TE
variable {A B : Nat → Nat → Int32} {n b e : Nat} {wn : Nat → Int32} {g : Int32} {lo pos : Nat}
theorem ev_no {k : Nat} {i : Int32} (hk : k < e) (hw : wn (wk_f B k) = 0) : ev_L B wn e k i = ev_L B wn e (k + 1) i := by
  unfold ev_L
  rw [show e - k = (e - (k + 1)) + 1 by omega]
  exact if_pos hw
theorem ev_yes {k : Nat} {i : Int32} (hk : k < e) (hw : ¬ wn (wk_f B k) = 0) : ev_L B wn e k i = as_pp (B 4) (B 6) (B 6 k) 2048 i ++ (2 * B 4 k, B 5 k) :: ev_L B wn e (k + 1) (if B 3 (wk_f B k) = 0 then B 6 k else nI k) := by
  unfold ev_L
  rw [show e - k = (e - (k + 1)) + 1 by omega]
  exact if_neg hw
theorem ev_skip {i : Int32} : ∀ (d k : Nat), k + d ≤ e → (∀ q, k ≤ q → q < k + d → wn (wk_f B q) = 0) → ev_L B wn e k i = ev_L B wn e (k + d) i
  | 0, _, _, _ => rfl
  | d + 1, k, h, hw => by
    rw [ev_no (by omega) (hw k (Nat.le_refl _) (by omega)), ev_skip d (k + 1) (by omega) (fun q q1 q2 => hw q (by omega) (by omega)), show k + 1 + d = k + (d + 1) by omega]
theorem pp_f {ofs aro : Nat → Int32} {tg : Int32} : ∀ (m : Nat) (i : Int32), as_rc aro 2048 tg m i → as_pp ofs aro tg m i = as_pp ofs aro tg (m + 1) i
  | 0, i, h => by
    show [] = if i = tg then [] else _
    rw [if_pos (show i = tg from h)]
  | m + 1, i, h => by
    show (if i = tg then [] else (2 * ofs i.toNatClampNeg + 1, 0) :: as_pp ofs aro tg m (aro i.toNatClampNeg)) = if i = tg then [] else (2 * ofs i.toNatClampNeg + 1, 0) :: as_pp ofs aro tg (m + 1) (aro i.toNatClampNeg)
    by_cases z : i = tg
    · rw [if_pos z, if_pos z]
    · rw [if_neg z, if_neg z]
      rcases h with y | ⟨q, q1, q2, q3⟩
      · exact absurd y z
      · rw [q2, nI_clamp (by omega), pp_f m _ q3]
theorem pp_shut (h : wk_P A n B b e) {p : Nat} {tg : Int32} (hb : b ≤ p) (hp : p < e) (hg : B 6 p = g) (hr : as_rc (B 6) 2048 tg 2048 g) : as_pp (B 4) (B 6) tg 2048 (nI p) = (2 * B 4 p + 1, 0) :: as_pp (B 4) (B 6) tg 2048 g := by
  have he := h.le
  have hv : tr_v b e p g := by rw [← hg]; exact h.d.v hb hp
  have h1 := rc_cut h.d he p 2048 g hv hr
  have hne : ¬ nI p = tg := fun z => by
    rcases rc_v h.d he 2048 p g hv hr with y | ⟨q, q1, q2, q3, q4⟩
    · exact nI_nm1 (by omega) (z.trans y)
    · have := (nI_eq (by omega) (by omega)).mp (z.trans q4)
      omega
  have e1 : as_pp (B 4) (B 6) tg 2048 (nI p) = if nI p = tg then [] else (2 * B 4 (nI p).toNatClampNeg + 1, 0) :: as_pp (B 4) (B 6) tg 2047 (B 6 (nI p).toNatClampNeg) := rfl
  rw [e1, if_neg hne, nI_clamp (by omega), hg, pp_f 2047 g (rc_up h1 (show p ≤ 2047 by omega))]
/-- the open group ends -/
theorem ev_pop (h : wk_P A n B b e) {p : Nat} (hb : b ≤ p) (hp : p < e) (hg : B 6 p = g) : ∀ (t k : Nat), k + t = e → (∀ q, k ≤ q → q < e → ¬ wn (wk_f B q) = 0 → (∀ q', k ≤ q' → q' < q → wn (wk_f B q') = 0) → as_rc (B 6) 2048 (B 6 q) 2048 g) → ev_L B wn e k (nI p) = (2 * B 4 p + 1, 0) :: ev_L B wn e k g
  | 0, k, hk, _ => by
    have he := h.le
    unfold ev_L
    rw [show e - k = 0 by omega]
    show as_pp (B 4) (B 6) (-1) 2048 (nI p) = _ :: as_pp (B 4) (B 6) (-1) 2048 g
    refine pp_shut h hb hp hg ?_
    have hv : tr_v b e e g := by rw [← hg]; exact (h.d.v hb hp).up (by omega)
    exact rc_up (rc_end h.d he e g hv) he
  | t + 1, k, hk, K => by
    by_cases z : wn (wk_f B k) = 0
    · rw [ev_no (by omega) z, ev_no (by omega) z]
      refine ev_pop h hb hp hg t (k + 1) (by omega) (fun q q1 q2 q3 q4 => K q (by omega) q2 q3 (fun q' x1 x2 => ?_))
      by_cases y : q' = k
      · rw [y]; exact z
      · exact q4 q' (by omega) x2
    · rw [ev_yes (by omega) z, ev_yes (by omega) z, pp_shut h hb hp hg (K k (Nat.le_refl _) (by omega) z (fun q' x1 x2 => by omega))]
      rfl
theorem ev_K (h : wk_P A n B b e) (hup : wn_up B wn b e) (hl : wk_lo b e g lo) (hO : wk_O B e g lo pos) : ∀ q, pos ≤ q → q < e → ¬ wn (wk_f B q) = 0 → (∀ q', pos ≤ q' → q' < q → wn (wk_f B q') = 0) → as_rc (B 6) 2048 (B 6 q) 2048 g := by
  intro q q1 q2 q3 q4
  have he := h.le
  have hb := ta_lo hl hO
  by_cases z : q = pos
  · rw [z]; exact hO.2.2.1 (by omega)
  · rcases hup q (by omega) q2 q3 with y | ⟨p, p1, p2, y, p4⟩
    · rw [y]
      exact rc_up (rc_end h.d he e g hl.v) he
    · rw [y]
      have hpp : p < pos := by
        rcases Nat.lt_or_ge p pos with x | x
        · exact x
        · exact absurd (q4 p x p2) p4
      have h1 : as_rc (B 6) 2048 (nI p) 2048 (nI q) := Or.inr ⟨q, by omega, rfl, by rw [y]; exact rc_rf _⟩
      have h2 := wk_all h p1 q2 h1 (q - pos) pos (by omega) (by omega)
      rcases h2 with x | ⟨u, u1, u2, u3⟩
      · have := (nI_eq (by omega) (by omega)).mp x
        omega
      · have := (nI_eq (by omega) (by omega)).mp u2
        subst this
        exact rc_cut48 h.d he hl.v (rc_tr u3 2048 _ (hO.2.2.1 (by omega)))
/-- the group's own end -/
theorem wk_skip (h : wk_P A n B b e) : ∀ (t : Nat) (g : Int32) (lo pos : Nat), e ≤ pos + t → wk_lo b e g lo → wk_O B e g lo pos → ∃ pos', pos ≤ pos' ∧ wk_O B e g lo pos' ∧ (pos' < e → ¬ B 6 pos' = g) := by
  intro t
  induction t with
  | zero =>
    intro g lo pos ht hl hO
    exact ⟨pos, Nat.le_refl _, hO, fun z => by omega⟩
  | succ t ih =>
    intro g lo pos ht hl hO
    have hb := ta_lo hl hO
    by_cases z : pos < e ∧ B 6 pos = g
    · by_cases y : B 3 (wk_f B pos) = 0
      · obtain ⟨p1, l1, O1, n1⟩ := ih g lo (pos + 1) (by omega) hl (wk_leaf h hl hO z.1 z.2 y)
        exact ⟨p1, by omega, O1, n1⟩
      · obtain ⟨p1, l1, O1, n1⟩ := ih (nI pos) (pos + 1) (pos + 1) (by omega) (Or.inr ⟨pos, hb, z.1, rfl, rfl⟩) (wk_in h hb z.1 y)
        obtain ⟨p2, l2, O2, n2⟩ := ih g lo p1 (by omega) hl (wk_out h hl hO z.1 z.2 O1 n1)
        exact ⟨p2, by omega, O2, n2⟩
    · exact ⟨pos, Nat.le_refl _, hO, fun x y => z ⟨x, y⟩⟩
/-- behind an occurrence and all in it -/
theorem wk_step (h : wk_P A n B b e) (hl : wk_lo b e g lo) (hO : wk_O B e g lo pos) (hp : pos < e) (hg : B 6 pos = g) : ∃ pos', pos < pos' ∧ wk_O B e g lo pos' ∧ ∀ q, pos < q → q < pos' → ¬ B 6 q = g ∧ (B 6 q = nI pos ∨ ∃ u, pos < u ∧ u < q ∧ B 6 q = nI u) := by
  have hb := ta_lo hl hO
  have he := h.le
  by_cases y : B 3 (wk_f B pos) = 0
  · exact ⟨pos + 1, by omega, wk_leaf h hl hO hp hg y, fun q q1 q2 => by omega⟩
  · obtain ⟨p1, l1, O1, n1⟩ := wk_skip h e (nI pos) (pos + 1) (pos + 1) (by omega) (Or.inr ⟨pos, hb, hp, rfl, rfl⟩) (wk_in h hb hp y)
    refine ⟨p1, by omega, wk_out h hl hO hp hg O1 n1, fun q q1 q2 => ?_⟩
    have h4 := O1.2.2.2 q (by omega) q2
    have h5 := O1.2.1
    have hlo := hO.1
    have hgv : g = -1 ∨ ∃ p, p < lo ∧ p < e ∧ g = nI p := by
      rcases hl with ⟨x, -⟩ | ⟨p, x1, x2, x, x3⟩
      · exact Or.inl x
      · exact Or.inr ⟨p, by omega, x2, x⟩
    refine ⟨fun x => ?_, ?_⟩
    · rcases hgv with w | ⟨p, w1, w2, w⟩
      · rcases h4 with v | ⟨u, u1, u2, v⟩
        · exact nI_nm1 (by omega) (v.symm.trans (x.trans w))
        · exact nI_nm1 (by omega) (v.symm.trans (x.trans w))
      · rcases h4 with v | ⟨u, u1, u2, v⟩
        · have := (nI_eq (by omega) (by omega)).mp (v.symm.trans (x.trans w))
          omega
        · have := (nI_eq (by omega) (by omega)).mp (v.symm.trans (x.trans w))
          omega
    · rcases h4 with v | ⟨u, u1, u2, v⟩
      · exact Or.inl v
      · exact Or.inr ⟨u, by omega, u2, v⟩
/-- nothing in what is not wanted is wanted -/
theorem wn_in (hup : wn_up B wn b e) (he : e ≤ 2048) {p p' : Nat} (hb : b ≤ p) (hp : p' ≤ e) (h0 : wn (wk_f B p) = 0) (hin : ∀ q, p < q → q < p' → B 6 q = nI p ∨ ∃ u, p < u ∧ u < q ∧ B 6 q = nI u) : ∀ (j q : Nat), q ≤ p + j → p ≤ q → q < p' → wn (wk_f B q) = 0
  | 0, q, h1, h2, h3 => by rw [show q = p by omega]; exact h0
  | j + 1, q, h1, h2, h3 => by
    by_cases z : q = p
    · rw [z]; exact h0
    · by_cases y : wn (wk_f B q) = 0
      · exact y
      · exfalso
        rcases hup q (by omega) (by omega) y with x | ⟨u, u1, u2, x, x2⟩
        · rcases hin q (by omega) h3 with w | ⟨v, v1, v2, w⟩
          · exact nI_nm1 (by omega) (w.symm.trans x)
          · exact nI_nm1 (by omega) (w.symm.trans x)
        · rcases hin q (by omega) h3 with w | ⟨v, v1, v2, w⟩
          · have := (nI_eq (by omega) (by omega)).mp (w.symm.trans x)
            rw [← this] at x2
            exact x2 h0
          · have := (nI_eq (by omega) (by omega)).mp (w.symm.trans x)
            rw [← this] at x2
            exact x2 (wn_in hup he hb hp h0 hin j v (by omega) (by omega) (by omega))
/-- all occurrences of an unwanted field are passed -/
theorem wk_pass (h : wk_P A n B b e) (hup : wn_up B wn b e) (hl : wk_lo b e g lo) {f : Nat} (hfg : A 0 f = wk_g B g) (hw : wn f = 0) : ∀ (t pos : Nat), e ≤ pos + t → wk_O B e g lo pos → (∀ q, pos ≤ q → q < e → B 6 q = g → f ≤ wk_f B q) → ∃ pos', pos ≤ pos' ∧ wk_O B e g lo pos' ∧ ¬ ta_hit B e f pos' ∧ (∀ q, pos ≤ q → q < pos' → B 6 q = g → wk_f B q = f) ∧ ev_L B wn e pos g = ev_L B wn e pos' g := by
  have he := h.le
  intro t
  induction t with
  | zero =>
    intro pos ht hO hi
    exact ⟨pos, Nat.le_refl _, hO, fun z => by have := z.1; omega, fun q q1 q2 => by omega, rfl⟩
  | succ t ih =>
    intro pos ht hO hi
    have hb := ta_lo hl hO
    by_cases z : ta_hit B e f pos
    · have hg := ta_g h hl hO z hfg
      obtain ⟨p1, l1, O1, n1⟩ := wk_step h hl hO z.1 hg
      obtain ⟨p2, l2, O2, n2, m2, e2⟩ := ih p1 (by omega) O1 (fun q q1 q2 q3 => hi q (by omega) q2 q3)
      refine ⟨p2, by omega, O2, n2, fun q q1 q2 q3 => ?_, ?_⟩
      · rcases Nat.lt_or_ge q p1 with y | y
        · by_cases x : q = pos
          · rw [x]; exact z.2
          · exact absurd q3 (n1 q (by omega) y).1
        · exact m2 q y q2 q3
      · rw [← e2]
        have := O1.2.1
        have e1 := ev_skip (wn := wn) (B := B) (e := e) (i := g) (p1 - pos) pos (by omega) (fun q q1 q2 => wn_in hup he hb (by omega) (by rw [z.2]; exact hw) (fun q x1 x2 => (n1 q x1 x2).2) (q - pos) q (by omega) q1 (by omega))
        rw [e1]
        congr 1
        omega
    · exact ⟨pos, Nat.le_refl _, hO, z, fun q q1 q2 => by omega, rfl⟩
end TE
