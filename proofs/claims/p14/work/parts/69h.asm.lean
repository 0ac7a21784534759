/-! A RECORD PUT TOGETHER, 7: both sides tell the same. -/
section AS
variable {A : Nat → Nat → Int32} {S : Nat → Int64} {I F V : Nat → Int32} {B : Nat → Nat → Int32} {J : Nat → Int32} {n lw b e k N r : Nat} {col : Nat → List co_E} {ev : List (Int32 × Int32)}
/-- a record's entries: the first alone repeats at 0 -/
theorem rec_hd (hS : li_S A I B J n lw) (hx : gx_S A S B n) (h : wk_P A n B b e) (hk : rk_s A B b e) (hbe : b ≤ e) {f0 : Nat} (hf0 : f0 < n) (h0 : B 3 f0 = 0) : hd_L 0 0 (fi_rec (B 4) (B 6) (B 5) (wy_W A f0) (wy_D A f0) (wy_R A f0) (wk_dn A f0) b e) := by
  have hn := hS.1
  have hup := hS.2.2.2.2.2.2.1
  have hde := hS.2.2.2.2.2.2.2.1
  have he := h.le
  obtain ⟨f1, a1, a3⟩ := ta_top hup hn 48 f0 hf0 (li_en_48 hup hn hf0)
  obtain ⟨-, -, -, t7, -⟩ := ta_mkP hS hx hf0 h0
  obtain ⟨x1, x2, x3, x4, x5⟩ := t7 f1 a1
  have hd1 := ta_dn0 hn hde x4 a3
  obtain ⟨d1, d2, d3, d4, d5⟩ := dl_up hS hx x4
  have eL : pf_L A B e f0 (-1) b f1 0 = fi_rec (B 4) (B 6) (B 5) (wy_W A f0) (wy_D A f0) (wy_R A f0) (wk_dn A f0) b e := by
    unfold pf_L ta_fe fi_rec
    rw [hd1] at x1 x3
    rw [hd1, a3, ← x1, ← x3]
    rfl
  rw [← eL, pf_eq]
  rcases nx_spec (ofs := B 4) (aro := B 6) (w := nI f1) (ins := -1) (e := e) (k := b) with z | ⟨q, q1, q2, z, z4, z6⟩
  · rw [z, if_pos rfl, d5]
    exact ⟨_, 0, [], rfl, Nat.zero_le _, by omega, fun en hen => by cases hen⟩
  · rw [z, if_neg (nI_nm1 (by omega)), nI_clamp (by omega)]
    exact (ps_hd hS hx h hk x4 (d := dl_n A (nI f1)) (fun p' re' hb' hp' => pe_hd hS hx h hk hf0 h0 hbe _ f1 a1 rfl p' re' hb' hp') e q 0 (by omega) q2 (by omega) z4 z6).le (Nat.zero_le _)
theorem asm_eq (hS : li_S A I B J n lw) (hX : gx_P A S n F V k N col ev B J lw b r) (hT : tr_A A n B J b k r) (hb : b + k ≤ 2048) (hr : r ≤ 128) (h5 : ¬ J 5 = 0) {i : Nat} (hi : i < r) {lo hh : Int32} {wn z : Nat → Int32} (hwn : wn = mo_wd (B 0) (B 3) lo hh n (mo_z z n) n) {Bn : Nat → Nat} (hBn : ∀ j, j ≤ r → B 7 j = nI (Bn j) ∧ Bn j ≤ 2048) (C : Nat → Int32) : (pu_all A S (cl_ch lo hh) N n col (pu_seek N col (cl_ch lo hh) (nI i) 48 0 C, [])).2 = as_ev (B 4) (B 6) (B 5) (B 3) wn 2048 (Bn (i + 1) - Bn i) (Bn i) (-1) := by
  obtain ⟨x1, x2, x3, x4, -⟩ := hX
  obtain ⟨t1, t2, t3⟩ := hT.bn (by omega)
  have hn := hS.1
  have hup := hS.2.2.2.2.2.2.1
  have hde := hS.2.2.2.2.2.2.2.1
  have e0 := hS.2.2.2.2.2.2.2.2.1.1
  have hlw := hS.2.2.2.2.2.1
  have hlwn := mo_lv_le (B 3) n
  have eB : ∀ j, j ≤ r → bn_of B j = Bn j := fun j hj => by
    unfold bn_of
    rw [(hBn j hj).1, nI_clamp (by have := (hBn j hj).2; omega)]
  rw [← eB i (by omega), ← eB (i + 1) (by omega)]
  have hwk : ∀ j, j < r → wk_P A n B (bn_of B j) (bn_of B (j + 1)) := fun j hj => ⟨⟨hn, by have := (t1 (j + 1) (by omega)).2; omega, hup, hde⟩, (t3 j hj).2, fun q1 q2 z1 z2 z3 z4 => ((x3 j hj).1 q1 q2 z1 z2 z3 z4).1⟩
  have hle := (t1 (i + 1) (by omega)).2
  obtain ⟨c1, c2⟩ := x4 h5
  have H : pr_H A S I B J n lw (bn_of B i) (bn_of B (i + 1)) N (cl_ch lo hh) wn := by
    refine ⟨hS, x1, hwk i hi, x3 i hi, fun t t1 t2 t3 => x2.2.2.2 t (by omega) t3, c1, fun f hf => ?_⟩
    rw [hwn, e0, wd_an hf n (Nat.le_refl _)]
    refine exists_congr fun f0 => ?_
    unfold mo_is pr_in
    constructor
    · rintro ⟨h1, ⟨h2, h3⟩, h4⟩
      have hlv := mo_lv_le (B 3) f0
      exact ⟨h1, h2, (ch_bit lo hh (by omega)).mp h3, (li_an_eq (li_en_48 hup hn h1) (li_en_up hup hn n _ (Or.inr ⟨f0, h1, rfl⟩) (Nat.le_refl _))).mpr h4⟩
    · rintro ⟨h1, h2, h3, h4⟩
      have hlv := mo_lv_le (B 3) f0
      exact ⟨h1, ⟨h2, (ch_bit lo hh (by omega)).mpr h3⟩, (li_an_eq (li_en_48 hup hn h1) (li_en_up hup hn n _ (Or.inr ⟨f0, h1, rfl⟩) (Nat.le_refl _))).mp h4⟩
  have hlen : (ev_L B wn (bn_of B (i + 1)) (bn_of B i) (-1)).length ≤ 4096 := (tr_tell (val := B 5) (t3 i hi).2 (by omega) hn hup (by rw [hwn, e0]) (t3 i hi).1).2
  refine pr_all (rest := fun f0 => en_fr (B 4) (B 6) (B 5) (wy_W A f0) (wy_D A f0) (wy_R A f0) (wk_dn A f0) (bn_of B) (r - (i + 1)) (i + 1)) H (t3 i hi).1 hlen (fun f0 h1 h2 h3 => ?_)
  obtain ⟨c3, c4⟩ := c2 f0 h1 h2
  have hlv := mlv_lt h1 h2
  have hrec : ∀ j, j < r → hd_L 0 0 (fi_rec (B 4) (B 6) (B 5) (wy_W A f0) (wy_D A f0) (wy_R A f0) (wk_dn A f0) (bn_of B j) (bn_of B (j + 1))) := fun j hj => rec_hd hS x1 (hwk j hj) (x3 j hj).1 (t3 j hj).1 h1 h2
  have eE : en_of A B f0 r = en_fr (B 4) (B 6) (B 5) (wy_W A f0) (wy_D A f0) (wy_R A f0) (wk_dn A f0) (bn_of B) i 0 ++ (fi_rec (B 4) (B 6) (B 5) (wy_W A f0) (wy_D A f0) (wy_R A f0) (wk_dn A f0) (bn_of B i) (bn_of B (i + 1)) ++ en_fr (B 4) (B 6) (B 5) (wy_W A f0) (wy_D A f0) (wy_R A f0) (wk_dn A f0) (bn_of B) (r - (i + 1)) (i + 1)) := by
    unfold en_of
    have := en_split (ofs := B 4) (aro := B 6) (val := B 5) (wy := wy_W A f0) (D := wy_D A f0) (R := wy_R A f0) (s := wk_dn A f0) (Bn := bn_of B) (m := (r - (i + 1)) + 1) i 0
    rw [show i + (r - (i + 1) + 1) = r by omega, Nat.zero_add] at this
    exact this
  refine ⟨⟨(en_fr (B 4) (B 6) (B 5) (wy_W A f0) (wy_D A f0) (wy_R A f0) (wk_dn A f0) (bn_of B) i 0).length, ?_, ?_, ?_, ?_⟩, ?_⟩
  · rw [seek_at 48 0 C (by omega), if_pos ⟨Nat.zero_le _, by omega, h3⟩]
    unfold co_from
    rw [if_pos (co_in (by omega) (by omega)), nI_clamp (by omega), c3, eE]
    have h4 := st_fr (i := i) (M := fi_rec (B 4) (B 6) (B 5) (wy_W A f0) (wy_D A f0) (wy_R A f0) (wk_dn A f0) (bn_of B i) (bn_of B (i + 1)) ++ en_fr (B 4) (B 6) (B 5) (wy_W A f0) (wy_D A f0) (wy_R A f0) (wk_dn A f0) (bn_of B) (r - (i + 1)) (i + 1)) (by omega) (fun j hj => hrec j (by omega)) i 0 0 (by omega)
    rw [show (0 : Int32) = nI 0 from rfl, h4, st_rec (hrec i hi), if_pos rfl, Nat.zero_add]
  · rw [c3, eE]
    exact List.length_append.symm
  · rw [c3, eE, List.drop_left]
  · rw [c3]; omega
  · intro en tl et
    generalize hm : r - (i + 1) = m at et
    match m, et with
    | 0, et => cases et
    | m + 1, et =>
      have et' : fi_rec (B 4) (B 6) (B 5) (wy_W A f0) (wy_D A f0) (wy_R A f0) (wk_dn A f0) (bn_of B (i + 1)) (bn_of B (i + 1 + 1)) ++ en_fr (B 4) (B 6) (B 5) (wy_W A f0) (wy_D A f0) (wy_R A f0) (wk_dn A f0) (bn_of B) m (i + 1 + 1) = en :: tl := et
      obtain ⟨kx, v, t, e1, -⟩ := hrec (i + 1) (by omega)
      rw [e1] at et'
      cases et'
      exact ⟨0, rfl, Nat.le_refl _⟩
/-- an event's parts -/
theorem ev_what {E : List (Int32 × Int32)} {a c : Nat → Int32} (h : as_h a c E) (hl : E.length ≤ 4096) {x wh : Int32} : cl_ev E x wh = if x < 0 ∨ nI E.length ≤ x then -1 else if wh = 0 then a x.toNatClampNeg else if wh = 1 then c x.toNatClampNeg else -1 := by
  unfold cl_ev
  by_cases z : x < 0
  · rw [if_pos (Or.inl z), if_pos (Or.inl z)]
  obtain ⟨κ, hκ, rfl⟩ := nI_of z
  rw [nI_clamp hκ]
  by_cases y : wh < 0 ∨ 2 ≤ wh
  · rw [if_pos (Or.inr y)]
    have n0 : ¬ wh = 0 := fun q => by rw [q] at y; exact absurd y (by decide)
    have n1 : ¬ wh = 1 := fun q => by rw [q] at y; exact absurd y (by decide)
    rw [if_neg n0, if_neg n1]
    split <;> rfl
  · rw [if_neg (fun q => q.elim z y)]
    rcases Nat.lt_or_ge κ E.length with q | q
    · rw [if_neg (fun p => p.elim z (nI_ge q (by omega))), List.getElem?_eq_getElem q]
      obtain ⟨h1, h2⟩ := h κ E[κ] (List.getElem?_eq_getElem q)
      rw [h1, h2]
      show (if wh = 0 then E[κ].1 else E[κ].2) = _
      by_cases w : wh = 0
      · rw [if_pos w, if_pos w]
      · have w1 : wh = 1 := by
          obtain ⟨j, hj, e⟩ := nI_of2 (x := wh) (M := 1) (n := 1) (by decide) (fun p => y (Or.inl p)) (Int32.not_lt.mp (fun p => y (Or.inr (by
            obtain ⟨j, hj, e⟩ := nI_of (x := wh) (fun p => y (Or.inl p))
            rw [e] at p ⊢
            rw [show (1 : Int32) = nI 1 from rfl, nI_ltI (by decide) hj] at p
            exact nI_le p hj))))
          match j, hj with
          | 0, _ => exact absurd e w
          | 1, _ => exact e
        rw [if_neg w, if_neg w, if_pos w1]
    · rw [if_pos (Or.inr (nI_le q hκ)), List.getElem?_eq_none q]
end AS
