/-! THE REFERENCE'S OCCURRENCES AS A TREE, 2: b .. e - 1 is a record. tr_v: i is none, or an occurrence of it below c. -/
def tr_v (b e c : Nat) (i : Int32) : Prop := i = -1 ∨ ∃ q, b ≤ q ∧ q < c ∧ q < e ∧ i = nI q
def tr_d (aro : Nat → Int32) (b e : Nat) : Prop := ∀ t, b ≤ t → t < e → aro t = -1 ∨ ∃ p, b ≤ p ∧ p < t ∧ aro t = nI p
section TR
variable {aro ofs G w val : Nat → Int32} {b e : Nat} {tg i j : Int32}
theorem rc_s : ∀ (m : Nat) (i : Int32), as_rc aro 2048 tg m i → as_rc aro 2048 tg (m + 1) i
  | 0, _, h => Or.inl h
  | m + 1, _, h => h.elim Or.inl (fun ⟨q, h1, h2, h3⟩ => Or.inr ⟨q, h1, h2, rc_s m _ h3⟩)
theorem rc_le {m : Nat} (h : as_rc aro 2048 tg m i) : ∀ k, as_rc aro 2048 tg (m + k) i
  | 0 => h
  | k + 1 => rc_s (m + k) i (rc_le h k)
theorem rc_up {m k : Nat} (h : as_rc aro 2048 tg m i) (hk : m ≤ k) : as_rc aro 2048 tg k i := by
  have := rc_le h (k - m)
  rw [show m + (k - m) = k by omega] at this
  exact this
theorem rc_rf : ∀ m, as_rc aro 2048 tg m tg
  | 0 => rfl
  | _ + 1 => Or.inl rfl
theorem rc_tr {m2 : Nat} (h2 : as_rc aro 2048 tg m2 j) : ∀ (m1 : Nat) (i : Int32), as_rc aro 2048 j m1 i → as_rc aro 2048 tg (m1 + m2) i
  | 0, i, h => by rw [Nat.zero_add, show i = j from h]; exact h2
  | m1 + 1, i, h => by
    rcases h with z | ⟨q, h1, h3, h4⟩
    · rw [z]; exact rc_up h2 (by omega)
    · rw [show m1 + 1 + m2 = m1 + m2 + 1 by omega]
      exact Or.inr ⟨q, h1, h3, rc_tr h2 m1 _ h4⟩
theorem tr_v.up {c c' : Nat} (h : tr_v b e c i) (hc : c ≤ c') : tr_v b e c' i := h.imp id (fun ⟨q, h1, h2, h3, h4⟩ => ⟨q, h1, by omega, h3, h4⟩)
theorem tr_d.v (hd : tr_d aro b e) {q : Nat} (h1 : b ≤ q) (h2 : q < e) : tr_v b e q (aro q) := (hd q h1 h2).imp id (fun ⟨p, p1, p2, p3⟩ => ⟨p, p1, p2, by omega, p3⟩)
/-- a way down can be gone in as many steps as there are occurrences -/
theorem rc_cut (hd : tr_d aro b e) (he : e ≤ 2048) : ∀ (c m : Nat) (i : Int32), tr_v b e c i → as_rc aro 2048 tg m i → as_rc aro 2048 tg c i
  | 0, m, i, hv, h => by
    have e1 : i = -1 := hv.resolve_right (fun ⟨_, _, z, _⟩ => absurd z (Nat.not_lt_zero _))
    match m, h with
    | 0, h => exact h
    | m + 1, h =>
      rcases h with z | ⟨q, h1, h2, -⟩
      · exact z
      · exact absurd (h2.symm.trans e1) (nI_nm1 (by omega))
  | c + 1, m, i, hv, h => by
    match m, h with
    | 0, h => exact Or.inl h
    | m + 1, h =>
      rcases h with z | ⟨q, h1, h2, h3⟩
      · exact Or.inl z
      · rcases hv with y | ⟨p, p1, p2, p3, p4⟩
        · exact absurd (h2.symm.trans y) (nI_nm1 (by omega))
        · have : p = q := (nI_eq (by omega) (by omega)).mp (p4.symm.trans h2)
          subst this
          exact Or.inr ⟨p, h1, h2, rc_cut hd he c m _ ((hd.v p1 p3).up (by omega)) h3⟩
theorem rc_cut48 (hd : tr_d aro b e) (he : e ≤ 2048) {m : Nat} (hv : tr_v b e e i) (h : as_rc aro 2048 tg m i) : as_rc aro 2048 tg 2048 i := rc_up (rc_cut hd he e m i hv h) he
/-- every way ends -/
theorem rc_end (hd : tr_d aro b e) (he : e ≤ 2048) : ∀ (c : Nat) (i : Int32), tr_v b e c i → as_rc aro 2048 (-1) c i
  | 0, _, hv => hv.resolve_right (fun ⟨_, _, z, _⟩ => absurd z (Nat.not_lt_zero _))
  | c + 1, _, hv => by
    rcases hv with y | ⟨p, p1, p2, p3, p4⟩
    · exact Or.inl y
    · exact Or.inr ⟨p, by omega, p4, rc_end hd he c _ ((hd.v p1 p3).up (by omega))⟩
/-- what is reached lies below -/
theorem rc_v (hd : tr_d aro b e) (he : e ≤ 2048) : ∀ (m c : Nat) (i : Int32), tr_v b e c i → as_rc aro 2048 tg m i → tr_v b e c tg
  | 0, c, i, hv, h => by rw [← show i = tg from h]; exact hv
  | m + 1, c, i, hv, h => by
    rcases h with z | ⟨q, h1, h2, h3⟩
    · rw [← z]; exact hv
    · rcases hv with y | ⟨p, p1, p2, p3, p4⟩
      · exact absurd (h2.symm.trans y) (nI_nm1 (by omega))
      · have : p = q := (nI_eq (by omega) (by omega)).mp (p4.symm.trans h2)
        subst this
        exact rc_v hd he m c _ ((hd.v p1 p3).up (by omega)) h3
/-- the same ways in other rows that agree on the record -/
theorem rc_cg {aro' : Nat → Int32} (hd : tr_d aro b e) (he : e ≤ 2048) (hq : ∀ q, b ≤ q → q < e → aro' q = aro q) : ∀ (m : Nat) (i : Int32), tr_v b e e i → as_rc aro 2048 tg m i → as_rc aro' 2048 tg m i
  | 0, _, _, h => h
  | m + 1, i, hv, h => by
    rcases h with z | ⟨q, h1, h2, h3⟩
    · exact Or.inl z
    · rcases hv with y | ⟨p, p1, p2, p3, p4⟩
      · exact absurd (h2.symm.trans y) (nI_nm1 (by omega))
      · have : p = q := (nI_eq (by omega) (by omega)).mp (p4.symm.trans h2)
        subst this
        refine Or.inr ⟨p, h1, h2, ?_⟩
        rw [hq p p1 p3]
        exact rc_cg hd he hq m _ ((hd.v p1 p3).up (by omega)) h3
theorem pp_s (hd : tr_d aro b e) (he : e ≤ 2048) : ∀ (c : Nat) (i : Int32), tr_v b e c i → as_pp ofs aro (-1) (c + 1) i = as_pp ofs aro (-1) c i
  | 0, i, hv => by
    have e1 : i = -1 := hv.resolve_right (fun ⟨_, _, z, _⟩ => absurd z (Nat.not_lt_zero _))
    exact if_pos e1
  | c + 1, i, hv => by
    show (if i = -1 then [] else _ :: as_pp ofs aro (-1) (c + 1) (aro i.toNatClampNeg)) = (if i = -1 then [] else _ :: as_pp ofs aro (-1) c (aro i.toNatClampNeg))
    rcases hv with y | ⟨p, p1, p2, p3, p4⟩
    · rw [if_pos y, if_pos y]
    · rw [p4, if_neg (nI_nm1 (by omega)), if_neg (nI_nm1 (by omega)), nI_clamp (by omega), pp_s hd he c (aro p) ((hd.v p1 p3).up (by omega))]
theorem pp_len (hd : tr_d aro b e) (he : e ≤ 2048) : ∀ (c : Nat) (i : Int32), tr_v b e c i → as_rc aro 2048 tg c i → (as_pp ofs aro tg c i).length + (as_pp ofs aro (-1) c tg).length ≤ (as_pp ofs aro (-1) c i).length
  | 0, i, hv, h => Nat.le_refl 0
  | c + 1, i, hv, h => by
    by_cases z : i = tg
    · have e1 : as_pp ofs aro tg (c + 1) i = [] := if_pos z
      rw [e1, z]
      show 0 + _ ≤ _
      omega
    · obtain ⟨q, h1, h2, h3⟩ := Or.resolve_left h z
      rcases hv with y | ⟨p, p1, p2, p3, p4⟩
      · exact absurd (h2.symm.trans y) (nI_nm1 (by omega))
      · have : p = q := (nI_eq (by omega) (by omega)).mp (p4.symm.trans h2)
        subst this
        have hv2 := (hd.v p1 p3).up (show p ≤ c by omega)
        have e1 : as_pp ofs aro tg (c + 1) i = (2 * ofs i.toNatClampNeg + 1, 0) :: as_pp ofs aro tg c (aro i.toNatClampNeg) := if_neg z
        have e2 : as_pp ofs aro (-1) (c + 1) i = (2 * ofs i.toNatClampNeg + 1, 0) :: as_pp ofs aro (-1) c (aro i.toNatClampNeg) := if_neg (by rw [h2]; exact nI_nm1 (by omega))
        rw [e1, e2, h2, nI_clamp (by omega), pp_s hd he c tg (rc_v hd he c c _ hv2 h3), List.length_cons, List.length_cons]
        have ih := pp_len hd he c (aro p) hv2 h3
        omega
/-- what stands behind occurrence u -/
def tr_st (ofs aro G : Nat → Int32) (u : Nat) : Int32 := if G (ofs u).toNatClampNeg = 0 then aro u else nI u
theorem tr_st_v (hd : tr_d aro b e) {u : Nat} (h1 : b ≤ u) (h2 : u < e) : tr_v b e (u + 1) (tr_st ofs aro G u) := by
  unfold tr_st
  split
  · exact (hd.v h1 h2).up (by omega)
  · exact Or.inr ⟨u, h1, by omega, h2, rfl⟩
/-- the order: each occurrence lies in one that still stood -/
def tr_o (ofs aro G : Nat → Int32) (b e : Nat) : Prop := (b < e → aro b = -1) ∧ ∀ t, b < t → t < e → as_rc aro 2048 (aro t) 2048 (tr_st ofs aro G (t - 1))
theorem as_ok_of (hd : tr_d aro b e) (he : e ≤ 2048) (ho : tr_o ofs aro G b e) (hf : ∀ t, b ≤ t → t < e → ∃ f, f < 48 ∧ ofs t = nI f) (hcl : ∀ t, b ≤ t → t < e → ¬ w (ofs t).toNatClampNeg = 0 → aro t = -1 ∨ ∃ q, b ≤ q ∧ q < e ∧ aro t = nI q ∧ ¬ w (ofs q).toNatClampNeg = 0) : ∀ (t k : Nat) (i c : Int32), k + t = e → b ≤ k → (k = b ∧ c = -1 ∨ b < k ∧ c = tr_st ofs aro G (k - 1)) → tr_v b e e i → (∀ tg, (tg = -1 ∨ ∃ q, b ≤ q ∧ q < e ∧ tg = nI q ∧ ¬ w (ofs q).toNatClampNeg = 0) → as_rc aro 2048 tg 2048 c → as_rc aro 2048 tg 2048 i) → as_ok ofs aro G w 2048 2048 t k i := by
  intro t
  induction t with
  | zero =>
    intro k i c hk hbk hc hi hinv
    exact rc_up (rc_end hd he e i hi) he
  | succ t ih =>
    intro k i c hk hbk hc hi hinv
    have hke : k < e := by omega
    have hcv : tr_v b e e c := by
      rcases hc with ⟨-, z⟩ | ⟨z1, z2⟩
      · exact Or.inl z
      · rw [z2]
        exact (tr_st_v hd (by omega) (by omega)).up (by omega)
    have hac : as_rc aro 2048 (aro k) 2048 c := by
      rcases hc with ⟨z1, z2⟩ | ⟨z1, z2⟩
      · rw [z1, z2, ho.1 (by omega)]
        exact rc_rf _
      · rw [z2]
        exact ho.2 k z1 hke
    have nx : k + 1 = b ∧ tr_st ofs aro G k = -1 ∨ b < k + 1 ∧ tr_st ofs aro G k = tr_st ofs aro G (k + 1 - 1) := Or.inr ⟨by omega, by rw [Nat.add_sub_cancel]⟩
    refine ⟨hf k hbk hke, fun hw => ?_, fun hw => ⟨?_, ?_⟩⟩
    · refine ih (k + 1) i _ (by omega) (by omega) nx hi (fun tg hal hr => hinv tg hal ?_)
      have h2 : as_rc aro 2048 tg 2048 (aro k) := by
        unfold tr_st at hr
        by_cases y : G (ofs k).toNatClampNeg = 0
        · rw [if_pos y] at hr; exact hr
        · rw [if_neg y] at hr
          rcases hr with y2 | ⟨q, q1, q2, q3⟩
          · exfalso
            rcases hal with x | ⟨u, u1, u2, x, x2⟩
            · exact nI_nm1 (by omega) (y2.trans x)
            · have : k = u := (nI_eq (by omega) (by omega)).mp (y2.trans x)
              rw [← this] at x2
              exact x2 hw
          · have : k = q := (nI_eq (by omega) (by omega)).mp q2
            rw [← this] at q3
            exact rc_s _ _ q3
      exact rc_cut48 hd he hcv (rc_tr h2 2048 c hac)
    · exact hinv (aro k) (hcl k hbk hke hw) hac
    · exact ih (k + 1) _ _ (by omega) (by omega) nx ((tr_st_v (ofs := ofs) (G := G) hd hbk hke).up (by omega)) (fun tg _ hr => hr)
theorem as_len (hd : tr_d aro b e) (he : e ≤ 2048) : ∀ (t k : Nat) (i : Int32), k + t = e → b ≤ k → tr_v b e e i → as_ok ofs aro G w 2048 2048 t k i → (as_ev ofs aro val G w 2048 t k i).length ≤ 2 * t + (as_pp ofs aro (-1) 2048 i).length := by
  intro t
  induction t with
  | zero =>
    intro k i hk hbk hi hok
    show (as_pp ofs aro (-1) 2048 i).length ≤ _
    omega
  | succ t ih =>
    intro k i hk hbk hi hok
    have hke : k < e := by omega
    obtain ⟨-, h1, h2⟩ := hok
    show (if w (ofs k).toNatClampNeg = 0 then as_ev ofs aro val G w 2048 t (k + 1) i else as_pp ofs aro (aro k) 2048 i ++ (2 * ofs k, val k) :: as_ev ofs aro val G w 2048 t (k + 1) (tr_st ofs aro G k)).length ≤ _
    by_cases z : w (ofs k).toNatClampNeg = 0
    · rw [if_pos z]
      have := ih (k + 1) i (by omega) (by omega) hi (h1 z)
      omega
    · rw [if_neg z, List.length_append, List.length_cons]
      obtain ⟨h3, h4⟩ := h2 z
      have h5 := ih (k + 1) (tr_st ofs aro G k) (by omega) (by omega) ((tr_st_v hd hbk hke).up (by omega)) h4
      have h6 := pp_len (ofs := ofs) hd he 2048 i (hi.up he) h3
      have h7 : (as_pp ofs aro (-1) 2048 (tr_st ofs aro G k)).length ≤ 1 + (as_pp ofs aro (-1) 2048 (aro k)).length := by
        unfold tr_st
        split
        · omega
        · have e1 : as_pp ofs aro (-1) 2048 (nI k) = (2 * ofs (nI k).toNatClampNeg + 1, 0) :: as_pp ofs aro (-1) 2047 (aro (nI k).toNatClampNeg) := if_neg (nI_nm1 (by omega))
          rw [e1, nI_clamp (by omega), List.length_cons, pp_s hd he 2047 (aro k) ((hd.v hbk hke).up (by omega))]
          omega
      omega
end TR
/-- what is wanted is wanted with all that lies around it -/
theorem mk_an {par : Nat → Int32} : ∀ (m : Nat) (g : Int32) (w : Nat → Int32) (f : Nat), (li_an par m g f → mo_mk par m g w f = 1) ∧ (¬ li_an par m g f → mo_mk par m g w f = w f)
  | 0, _, _, _ => ⟨fun z => z.elim, fun _ => rfl⟩
  | m + 1, g, w, f => by
    have eS : mo_mk par (m + 1) g w = if g = -1 then w else mo_mk par m (par g.toNatClampNeg) (upd w g.toNatClampNeg 1) := rfl
    rw [eS]
    by_cases z : g = -1
    · rw [if_pos z]
      exact ⟨fun y => absurd z y.1, fun _ => rfl⟩
    · rw [if_neg z]
      obtain ⟨h1, h2⟩ := mk_an (par := par) m (par g.toNatClampNeg) (upd w g.toNatClampNeg 1) f
      refine ⟨fun y => ?_, fun y => ?_⟩
      · by_cases q : li_an par m (par g.toNatClampNeg) f
        · exact h1 q
        · rw [h2 q]
          exact if_pos (y.2.resolve_right q).symm
      · rw [h2 (fun q => y ⟨z, Or.inr q⟩)]
        exact if_neg (fun q => y ⟨z, Or.inl q.symm⟩)
theorem li_an_par {par : Nat → Int32} {f p : Nat} (hp : p < 2 ^ 31) (hf : par f = nI p) : ∀ (m : Nat) (g : Int32), li_en par m g → li_an par m g f → li_an par m g p
  | 0, _, _, h => h.elim
  | m + 1, g, he, h => by
    refine ⟨h.1, Or.inr ?_⟩
    have he2 := Or.resolve_left he h.1
    rcases h.2 with z | z
    · rw [z, hf] at he2 ⊢
      match m, he2 with
      | 0, he2 => exact absurd he2 (nI_nm1 hp)
      | m + 1, _ => exact ⟨nI_nm1 hp, Or.inl (nI_clamp hp)⟩
    · exact li_an_par hp hf m _ he2 z
theorem wd_up {par G : Nat → Int32} {lo hi : Int32} {n : Nat} {w : Nat → Int32} (hup : mo_up par n) (hn : n ≤ 48) : ∀ i, i ≤ n → (∀ f p, f < n → par f = nI p → p < n → ¬ mo_wd par G lo hi n (mo_z w n) i f = 0 → ¬ mo_wd par G lo hi n (mo_z w n) i p = 0)
  | 0, _, f, p, hf, _, _, h => absurd (show mo_z w n f = 0 from if_pos hf) h
  | i + 1, hin, f, p, hf, hfp, hp, h => by
    have ih := wd_up (G := G) (lo := lo) (hi := hi) (w := w) hup hn i (by omega) f p hf hfp hp
    unfold mo_wd at h ⊢
    split at h
    · rename_i z
      rw [if_pos z]
      obtain ⟨a1, a2⟩ := mk_an (par := par) n (nI i) (mo_wd par G lo hi n (mo_z w n) i) f
      obtain ⟨b1, b2⟩ := mk_an (par := par) n (nI i) (mo_wd par G lo hi n (mo_z w n) i) p
      by_cases y : li_an par n (nI i) p
      · rw [b1 y]; decide
      · rw [b2 y]
        refine ih ?_
        by_cases x : li_an par n (nI i) f
        · exact absurd (li_an_par (by omega) hfp n (nI i) (li_en_up hup hn n (nI i) (Or.inr ⟨i, by omega, rfl⟩) (Nat.le_refl _)) x) y
        · rw [a2 x] at h; exact h
    · rename_i z
      rw [if_neg z]
      exact ih h
