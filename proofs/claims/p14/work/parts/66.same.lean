/-! THE REFERENCE'S LISTS depend on what they read alone; a column's own way. -/
theorem nx_cg {ofs aro ofs' aro' : Nat → Int32} {w ins : Int32} : ∀ (t k : Nat), (∀ q, k ≤ q → q < k + t → ofs' q = ofs q ∧ aro' q = aro q) → mo_nx ofs' aro' w ins t k = mo_nx ofs aro w ins t k
  | 0, _, _ => rfl
  | t + 1, k, h => by
    show (if ofs' k = w ∧ aro' k = ins then nI k else mo_nx ofs' aro' w ins t (k + 1)) = (if ofs k = w ∧ aro k = ins then nI k else mo_nx ofs aro w ins t (k + 1))
    rw [(h k (Nat.le_refl _) (by omega)).1, (h k (Nat.le_refl _) (by omega)).2, nx_cg t (k + 1) (fun q q1 q2 => h q (by omega) (by omega))]
theorem fnx_cg {ofs aro ofs' aro' : Nat → Int32} {w ins : Int32} {e : Nat} (h : ∀ q, q < e → ofs' q = ofs q ∧ aro' q = aro q) (k : Nat) : fi_nx ofs' aro' w ins e k = fi_nx ofs aro w ins e k := nx_cg _ _ (fun q q1 q2 => h q (by omega))
theorem sib_cg {nx nx' : Nat → Int32} {en en' : Nat → Int32 → List fi_E} {R : Int32} {e : Nat} (he : e ≤ 2048) (h1 : ∀ k, nx' k = nx k) (hb : ∀ k, nx k = -1 ∨ ∃ q, q < e ∧ nx k = nI q) (h2 : ∀ p rep, p < e → en' p rep = en p rep) : ∀ (u p : Nat) (rep : Int32), p < e → fi_sib nx' en' R u p rep = fi_sib nx en R u p rep
  | 0, _, _, _ => rfl
  | u + 1, p, rep, hp => by
    show en' p rep ++ (if nx' (p + 1) = -1 then [] else fi_sib nx' en' R u (nx' (p + 1)).toNatClampNeg R) = en p rep ++ (if nx (p + 1) = -1 then [] else fi_sib nx en R u (nx (p + 1)).toNatClampNeg R)
    rw [h1, h2 p rep hp]
    rcases hb (p + 1) with z | ⟨q, hq, z⟩
    · rw [if_pos z, if_pos z]
    · rw [z, if_neg (nI_nm1 (by omega)), if_neg (nI_nm1 (by omega)), nI_clamp (by omega), sib_cg he h1 hb h2 u q R hq]
theorem nx_in {ofs aro : Nat → Int32} {w ins : Int32} {e : Nat} (k : Nat) : fi_nx ofs aro w ins e k = -1 ∨ ∃ q, q < e ∧ fi_nx ofs aro w ins e k = nI q := by
  rcases mo_nx_or ofs aro w ins (e - k) k with z | ⟨q, q1, q2, q3, -⟩
  · exact Or.inl z
  · exact Or.inr ⟨q, by omega, q3⟩
theorem ent_cg {ofs aro val wy D R ofs' aro' val' wy' D' R' : Nat → Int32} {e : Nat} (he : e ≤ 2048) (h : ∀ q, q < e → (ofs' q = ofs q ∧ aro' q = aro q) ∧ val' q = val q) : ∀ (t j p : Nat) (rep : Int32), p < e → (∀ i, i ≤ j + t → wy' i = wy i ∧ D' i = D i ∧ R' i = R i) → fi_ent ofs' aro' val' wy' D' R' e t j p rep = fi_ent ofs aro val wy D R e t j p rep
  | 0, j, p, rep, hp, hw => by
    show [(rep, D' j, val' p)] = [(rep, D j, val p)]
    rw [(hw j (by omega)).2.1, (h p hp).2]
  | t + 1, j, p, rep, hp, hw => by
    show (if fi_nx ofs' aro' (wy' (j + 1)) (nI p) e (p + 1) = -1 then [(rep, D' j, 0)] else fi_sib (fi_nx ofs' aro' (wy' (j + 1)) (nI p) e) (fi_ent ofs' aro' val' wy' D' R' e t (j + 1)) (R' (j + 1)) e (fi_nx ofs' aro' (wy' (j + 1)) (nI p) e (p + 1)).toNatClampNeg rep) = (if fi_nx ofs aro (wy (j + 1)) (nI p) e (p + 1) = -1 then [(rep, D j, 0)] else fi_sib (fi_nx ofs aro (wy (j + 1)) (nI p) e) (fi_ent ofs aro val wy D R e t (j + 1)) (R (j + 1)) e (fi_nx ofs aro (wy (j + 1)) (nI p) e (p + 1)).toNatClampNeg rep)
    rw [(hw (j + 1) (by omega)).1, (hw j (by omega)).2.1, (hw (j + 1) (by omega)).2.2, fnx_cg (fun q hq => (h q hq).1) (p + 1)]
    rcases nx_in (ofs := ofs) (aro := aro) (w := wy (j + 1)) (ins := nI p) (e := e) (p + 1) with z | ⟨q, hq, z⟩
    · rw [if_pos z, if_pos z]
    · rw [z, if_neg (nI_nm1 (by omega)), if_neg (nI_nm1 (by omega)), nI_clamp (by omega)]
      exact sib_cg he (fun k => fnx_cg (fun q hq => (h q hq).1) k) (fun k => nx_in k) (fun p rep hp => ent_cg he h t (j + 1) p rep hp (fun i hi => hw i (by omega))) e q rep hq
theorem rec_cg {ofs aro val wy D R ofs' aro' val' wy' D' R' : Nat → Int32} {s b e : Nat} (he : e ≤ 2048) (hs : 0 < s) (h : ∀ q, q < e → (ofs' q = ofs q ∧ aro' q = aro q) ∧ val' q = val q) (hw : ∀ i, i < s → wy' i = wy i ∧ D' i = D i ∧ R' i = R i) : fi_rec ofs' aro' val' wy' D' R' s b e = fi_rec ofs aro val wy D R s b e := by
  unfold fi_rec
  rw [(hw 0 hs).1, (hw 0 hs).2.2, fnx_cg (fun q hq => (h q hq).1) b]
  rcases nx_in (ofs := ofs) (aro := aro) (w := wy 0) (ins := -1) (e := e) b with z | ⟨q, hq, z⟩
  · rw [if_pos z, if_pos z]
  · rw [z, if_neg (nI_nm1 (by omega)), if_neg (nI_nm1 (by omega)), nI_clamp (by omega)]
    exact sib_cg he (fun k => fnx_cg (fun q hq => (h q hq).1) k) (fun k => nx_in k) (fun p rep hp => ent_cg he h (s - 1) 0 p rep hp (fun i hi => hw i (by omega))) e q 0 hq
/-- the entries of m records from r on, along a way -/
def en_fr (ofs aro val wy D R : Nat → Int32) (s : Nat) (Bn : Nat → Nat) : Nat → Nat → List fi_E
  | 0, _ => []
  | m + 1, r => fi_rec ofs aro val wy D R s (Bn r) (Bn (r + 1)) ++ en_fr ofs aro val wy D R s Bn m (r + 1)
theorem en_snoc {ofs aro val wy D R : Nat → Int32} {s : Nat} {Bn : Nat → Nat} : ∀ (m r : Nat), en_fr ofs aro val wy D R s Bn (m + 1) r = en_fr ofs aro val wy D R s Bn m r ++ fi_rec ofs aro val wy D R s (Bn (r + m)) (Bn (r + m + 1))
  | 0, r => by
    show fi_rec ofs aro val wy D R s (Bn r) (Bn (r + 1)) ++ [] = [] ++ _
    rw [List.append_nil, List.nil_append]
    rfl
  | m + 1, r => by
    show fi_rec ofs aro val wy D R s (Bn r) (Bn (r + 1)) ++ en_fr ofs aro val wy D R s Bn (m + 1) (r + 1) = fi_rec ofs aro val wy D R s (Bn r) (Bn (r + 1)) ++ en_fr ofs aro val wy D R s Bn m (r + 1) ++ _
    rw [en_snoc m (r + 1), List.append_assoc, show r + 1 + m = r + (m + 1) by omega]
theorem en_cg {ofs aro val wy D R ofs' aro' val' wy' D' R' : Nat → Int32} {s b : Nat} {Bn Bn' : Nat → Nat} (hb : b ≤ 2048) (hs : 0 < s) (h : ∀ q, q < b → (ofs' q = ofs q ∧ aro' q = aro q) ∧ val' q = val q) (hw : ∀ i, i < s → wy' i = wy i ∧ D' i = D i ∧ R' i = R i) : ∀ (m r : Nat), (∀ i, r ≤ i → i ≤ r + m → Bn' i = Bn i ∧ Bn i ≤ b) → en_fr ofs' aro' val' wy' D' R' s Bn' m r = en_fr ofs aro val wy D R s Bn m r
  | 0, _, _ => rfl
  | m + 1, r, hB => by
    show fi_rec ofs' aro' val' wy' D' R' s (Bn' r) (Bn' (r + 1)) ++ en_fr ofs' aro' val' wy' D' R' s Bn' m (r + 1) = fi_rec ofs aro val wy D R s (Bn r) (Bn (r + 1)) ++ en_fr ofs aro val wy D R s Bn m (r + 1)
    have h1 := hB r (Nat.le_refl _) (by omega)
    have h2 := hB (r + 1) (by omega) (by omega)
    rw [h1.1, h2.1, rec_cg (by omega) hs (fun q hq => h q (by omega)) hw, en_cg hb hs h hw m (r + 1) (fun i i1 i2 => hB i (by omega) (by omega))]
/-- a leaf's way: place j holds the group j + 1 deep -/
theorem wy_at {par : Nat → Int32} {dep : Nat → Int32} {n : Nat} (hn : n ≤ 48) (hde : mo_de par dep n) : ∀ (t f : Nat) (w : Nat → Int32), t ≤ 16 → f < n → dep f = nI t → (∀ j, t ≤ j → mo_wy par t (nI f) w j = w j) ∧ ∀ m u d, li_an par m (nI f) u → dep u = nI (d + 1) → d + 1 ≤ 16 → mo_wy par t (nI f) w d = nI u
  | 0, f, w, ht, hf, hd => by
    obtain ⟨k, hk, e, -⟩ := hde f hf
    have := (nI_eq (a := 0) (by decide) (by omega)).mp (hd.symm.trans e)
    omega
  | t + 1, f, w, ht, hf, hd => by
    have eS : mo_wy par (t + 1) (nI f) w = mo_wy par t (par (nI f).toNatClampNeg) (upd w t (nI f)) := rfl
    rw [eS, nI_clamp (by omega)]
    obtain ⟨k, hk, e, z⟩ := hde f hf
    have ek : t + 1 = k + 1 := (nI_eq (by omega) (by omega)).mp (hd.symm.trans e)
    rcases z with ⟨z1, z2⟩ | ⟨p, hp, z1, z2, z3⟩
    · have t0 : t = 0 := by omega
      subst t0
      rw [z1]
      refine ⟨fun j hj => if_neg (by omega), fun m u d h1 h2 h3 => ?_⟩
      match m, h1 with
      | m + 1, h1 =>
        rw [show li_an par (m + 1) (nI f) u = (¬ nI f = -1 ∧ ((nI f).toNatClampNeg = u ∨ li_an par m (par (nI f).toNatClampNeg) u)) from rfl, nI_clamp (by omega), z1] at h1
        rcases h1.2 with x | x
        · subst x
          have := (nI_eq (by omega) (by omega)).mp (h2.symm.trans hd)
          rw [show d = 0 by omega]
          show upd w 0 (nI f) 0 = nI f
          exact if_pos rfl
        · match m, x with
          | m + 1, x => exact absurd rfl x.1
    · rw [z1]
      have hdp : dep p = nI t := by rw [z3]; congr 1; omega
      obtain ⟨i1, i2⟩ := wy_at hn hde t p (upd w t (nI f)) (by omega) (by omega) hdp
      refine ⟨fun j hj => (i1 j (by omega)).trans (if_neg (by omega)), fun m u d h1 h2 h3 => ?_⟩
      match m, h1 with
      | m + 1, h1 =>
        rw [show li_an par (m + 1) (nI f) u = (¬ nI f = -1 ∧ ((nI f).toNatClampNeg = u ∨ li_an par m (par (nI f).toNatClampNeg) u)) from rfl, nI_clamp (by omega), z1] at h1
        rcases h1.2 with x | x
        · subst x
          have := (nI_eq (by omega) (by omega)).mp (h2.symm.trans hd)
          rw [show d = t by omega, i1 t (Nat.le_refl _)]
          exact if_pos rfl
        · exact i2 m u d x h2 h3
