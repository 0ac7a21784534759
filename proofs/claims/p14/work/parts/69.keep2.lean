/-! WHAT IS KEPT BESIDE, from call to call. -/
/-- the events that were told last -/
def gx_E (ev : List (Int32 × Int32)) (B : Nat → Nat → Int32) (J : Nat → Int32) : Prop := J 23 = nI ev.length ∧ ev.length ≤ 4096 ∧ as_h (B 11) (B 12) ev
def gx_P (A : Nat → Nat → Int32) (S : Nat → Int64) (n : Nat) (F V : Nat → Int32) (k N : Nat) (col : Nat → List co_E) (ev : List (Int32 × Int32)) (B : Nat → Nat → Int32) (J : Nat → Int32) (lw b r : Nat) : Prop := gx_S A S B n ∧ gx_D A n F V k B J b ∧ gx_K A n B r ∧ gx_C A n N col B J lw b r ∧ gx_E ev B J
section KF
variable {A : Nat → Nat → Int32} {S : Nat → Int64} {I F V F' V' G W : Nat → Int32} {k dp : Nat} {bg cr co : Int32} {N : Nat} {col : Nat → List co_E} {ev ev' : List (Int32 × Int32)} {B B' : Nat → Nat → Int32} {J J' : Nat → Int32} {n lw b e r : Nat}
theorem gx_E.same (h : gx_E ev B J) (hJ : J' 23 = J 23) (h11 : B' 11 = B 11) (h12 : B' 12 = B 12) : gx_E ev B' J' := by
  unfold gx_E at *
  rw [hJ, h11, h12]
  exact h
theorem gx_S.add (h : gx_S A S B n) (hS : li_S A I B J n lw) {p kd gb : Int32} (hy : sc_yes A I n p kd) (hgb : gb = 0 ∨ gb = 1) : gx_S (va_up (sc_A1 A n lw p kd gb) 6 (sc_st1 A S n lw p gb).1) (sc_st1 A S n lw p gb).2 (va_up (va_up (va_up (va_up B 0 (upd (B 0) n p)) 1 (upd (B 1) n kd)) 3 (upd (B 3) n gb)) 2 (upd (B 2) n (if p = -1 then 1 else B 2 p.toNatClampNeg + 1))) (n + 1) := by
  refine ⟨h.1.add hS hy hgb, fun g f hg hp hf => ?_⟩
  have hp' : upd (A 0) n p g = nI f := hp
  show ¬ upd (B 3) n gb f = 0
  have hn := hS.1
  have hn2 := hy.2.1
  by_cases z : g = n
  · rw [z, pk_us] at hp'
    obtain ⟨-, -, -, -, y⟩ := (li_yes hS).mp hy
    rcases y with y | ⟨w, hw, y, y2, -⟩
    · exact absurd (hp'.symm.trans y) (nI_nm1 (by omega))
    · have : w = f := (nI_eq (by omega) (by omega)).mp (y.symm.trans hp')
      subst this
      rw [pk_un (by omega)]
      exact y2
  · rw [pk_un z] at hp'
    rcases hS.2.2.2.2.2.2.1 g (by omega) with y | ⟨w, hw, y⟩
    · exact absurd (hp'.symm.trans y) (nI_nm1 (by omega))
    · have : w = f := (nI_eq (by omega) (by omega)).mp (y.symm.trans hp')
      subst this
      rw [pk_un (by omega)]
      exact h.2 g w (by omega) hp' (by omega)
theorem gx_P.field (h : gx_P A S n F V 0 0 col ev B J lw 0 0) (hS : li_S A I B J n lw) {p kd gb : Int32} (hy : sc_yes A I n p kd) (hgb : gb = 0 ∨ gb = 1) (h5 : J 5 = 0) {lw' : Nat} : gx_P (va_up (sc_A1 A n lw p kd gb) 6 (sc_st1 A S n lw p gb).1) (sc_st1 A S n lw p gb).2 (n + 1) F V 0 0 col ev (va_up (va_up (va_up (va_up B 0 (upd (B 0) n p)) 1 (upd (B 1) n kd)) 3 (upd (B 3) n gb)) 2 (upd (B 2) n (if p = -1 then 1 else B 2 p.toNatClampNeg + 1))) (va_up J 4 (nI (n + 1))) lw' 0 0 :=
  ⟨h.1.add hS hy hgb, ⟨fun j hj => absurd hj (Nat.not_lt_zero _), fun q1 q2 z1 z2 z3 _ => by omega, fun t t1 t2 => by omega, fun t t1 => by omega⟩, fun i hi => absurd hi (Nat.not_lt_zero _), fun z => absurd h5 z, h.2.2.2.2.same rfl rfl rfl⟩
theorem gx_P.ready (h : gx_P A S n F V k N col ev B J lw b r) (hr : r = 0) : gx_P A S n F V k lw (fun _ => []) ev B (va_up J 5 1) lw b r := by
  subst hr
  exact ⟨h.1, h.2.1, h.2.2.1, fun _ => ⟨rfl, fun f _ _ => ⟨rfl, Nat.zero_le _⟩⟩, h.2.2.2.2.same rfl rfl rfl⟩
theorem gx_P.begin (h : gx_P A S n F V k N col ev B J lw b r) {x : Int32} (hx : x = B 7 r) : gx_P A S n F V 0 N col ev (va_up B 7 (upd (B 7) r x)) (va_up (va_up J 12 1) 13 (-1)) lw b r := by
  have e : va_up B 7 (upd (B 7) r x) = B := by
    funext j
    unfold va_up
    by_cases z : j = 7
    · rw [if_pos z, z]
      funext i
      unfold upd
      by_cases y : i = r
      · rw [if_pos y, y, hx]
      · rw [if_neg y]
    · rw [if_neg z]
  rw [e]
  exact ⟨h.1, h.2.1.nil, h.2.2.1, h.2.2.2.1, h.2.2.2.2.same rfl rfl rfl⟩
theorem gx_P.drop (h : gx_P A S n F V k N col ev B J lw b r) {x : Int32} : gx_P A S n F V 0 N col ev B (va_up (va_up (va_up J 12 0) 9 x) 13 (-1)) lw b r := ⟨h.1, h.2.1.nil, h.2.2.1, h.2.2.2.1, h.2.2.2.2.same rfl rfl rfl⟩
theorem gx_P.come (h : gx_P A S n F V k N col ev B J lw b r) (hS : li_S A I B J n lw) (hD : li_D A n G W k dp bg cr co B J b r) (hT : tr_A A n B J b k r) (hbg : ¬ bg = 0) (hb : b + k < 2048) {w : Nat} {v : Int32} (hw : w < n) (hge : ¬ nI w < W dp) (h2 : nI w = W dp → A 1 w = 2) (hF : ∀ j, j < k → F' j = F j ∧ V' j = V j) (hFk : F' k = nI w) (hVk : V' k = v) (hv : B 3 w = 0 ∧ J' 13 = J 13 ∨ ¬ B 3 w = 0 ∧ J' 13 = nI (b + k) ∧ v = 0) (h5 : J' 5 = J 5) (h23 : J' 23 = J 23) : gx_P A S n F' V' (k + 1) N col ev (va_up (va_up (va_up B 4 (upd (B 4) (b + k) (nI w))) 5 (upd (B 5) (b + k) v)) 6 (upd (B 6) (b + k) (J 13))) J' lw b r := by
  obtain ⟨x1, x2, x3, x4, x5⟩ := h
  have hn := hS.1
  have hR : tr_R A n B b (b + k) := by obtain ⟨Bn, -, -, -, h4, -⟩ := id hT; exact h4
  refine ⟨x1, x2.come hR.1.d hb (li_in2 hD) (by omega) hF hFk hVk rfl (fun t ht => pk_un (by omega)) pk_us (fun t ht => pk_un (by omega)) pk_us (fun t ht => pk_un (by omega)) pk_us (li_sib hn hD hbg hw hge h2) hv, x3.cg hT (by omega) (fun q hq => pk_un (by omega)) (fun q hq => pk_un (by omega)) rfl (fun _ _ => rfl), x4.cg hn hS.2.2.2.2.2.2.2.1 hT (by omega) (fun q hq => pk_un (by omega)) (fun q hq => pk_un (by omega)) (fun q hq => pk_un (by omega)) rfl (fun _ _ => rfl) h5, x5.same h23 rfl rfl⟩
theorem gx_P.inner (h : gx_P A S n F V k N col ev B J lw b r) (hS : li_S A I B J n lw) (hb : b + k ≤ 2048) {q : Nat} (hq : J 13 = nI q) (q2 : q < b + k) (hme : mo_end B J n b (b + k)) : gx_P A S n F V k N col ev B (va_up J 13 (B 6 q)) lw b r := by
  obtain ⟨x1, x2, x3, x4, x5⟩ := h
  have hf := rk_end hS hme
  unfold mo_ps at hf
  rw [hq, if_neg (nI_nm1 (by omega)), nI_clamp (by omega)] at hf
  exact ⟨x1, x2.inner hq (by omega) hb hf rfl, x3, x4, x5.same rfl rfl rfl⟩
theorem gx_P.outer (h : gx_P A S n F V k N col ev B J lw b r) (hS : li_S A I B J n lw) (hT : tr_A A n B J b k r) (hb : b + k ≤ 2048) (hr : r < 128) (h13 : J 13 = -1) (hme : mo_end B J n b (b + k)) : gx_P A S n F V 0 N (tk_all A S F V k N n col).2 ev (va_up B 7 (upd (B 7) (r + 1) (nI (b + k)))) (va_up (va_up J 12 0) 11 (nI (r + 1))) lw (b + k) (r + 1) := by
  obtain ⟨x1, x2, x3, x4, x5⟩ := h
  exact ⟨x1, ⟨fun j hj => absurd hj (Nat.not_lt_zero _), fun q1 q2 z1 z2 z3 _ => by omega, fun t t1 t2 => by omega, fun t t1 t2 => x2.2.2.2 t t1 t2⟩, x3.out (x2.out hS hb h13 hme) hT hb, x4.out hS x1 x2 hT hb hr rfl, x5.same rfl rfl rfl⟩
/-- the reference's other cells change -/
theorem gx_P.same (h : gx_P A S n F V k N col ev B J lw b r) (hB : ∀ i, i < 8 → B' i = B i) (hJ : ∀ j, j < 16 → J' j = J j) (hE : gx_E ev' B' J') : gx_P A S n F V k N col ev' B' J' lw b r := by
  obtain ⟨x1, x2, x3, x4, -⟩ := h
  refine ⟨?_, ?_, ?_, ?_, hE⟩
  · unfold gx_S li_V at *
    rw [hB 3 (by decide)]
    exact x1
  · unfold gx_D rk_s rk_q wk_f at *
    rw [hB 3 (by decide), hB 4 (by decide), hB 5 (by decide), hB 6 (by decide), hJ 13 (by decide)]
    exact x2
  · unfold gx_K rk_P rk_s rk_q bn_of wk_f at *
    rw [hB 3 (by decide), hB 4 (by decide), hB 6 (by decide), hB 7 (by decide)]
    exact x3
  · unfold gx_C en_of bn_of at *
    rw [hB 3 (by decide), hB 4 (by decide), hB 5 (by decide), hB 6 (by decide), hB 7 (by decide), hJ 5 (by decide)]
    exact x4
/-- which leaf a column is -/
theorem lf_ex {G : Nat → Int32} {c : Nat} : ∀ m, c < mo_lv G m → ∃ f, f < m ∧ G f = 0 ∧ mo_lv G f = c
  | 0, h => absurd h (Nat.not_lt_zero _)
  | m + 1, h => by
    have h' : c < mo_lv G m + (if G m = 0 then 1 else 0) := h
    rcases Nat.lt_or_ge c (mo_lv G m) with z | z
    · obtain ⟨f, f1, f2, f3⟩ := lf_ex m z
      exact ⟨f, by omega, f2, f3⟩
    · by_cases y : G m = 0
      · rw [if_pos y] at h'
        exact ⟨m, by omega, y, by omega⟩
      · rw [if_neg y] at h'
        omega
theorem lf_no {G : Nat → Int32} {x : Int32} : ∀ m, m ≤ 48 → mo_lf G x m = -1 → ∀ f, f < m → G f = 0 → ¬ x = nI (mo_lv G f)
  | 0, _, _, _, hf, _ => absurd hf (Nat.not_lt_zero _)
  | m + 1, hm, h, f, hf, h0 => by
    intro e
    have h' : (if 0 ≤ x ∧ (if G m = 0 then nI (mo_lv G m) else -1) = x then nI m else mo_lf G x m) = -1 := h
    by_cases z : 0 ≤ x ∧ (if G m = 0 then nI (mo_lv G m) else -1) = x
    · rw [if_pos z] at h'
      exact nI_nm1 (by omega) h'
    · rw [if_neg z] at h'
      rcases Nat.lt_or_ge f m with y | y
      · exact lf_no m (by omega) h' f y h0 e
      · have : f = m := by omega
        subst this
        have := mo_lv_le G f
        refine z ⟨by rw [e]; exact nI_pos' (by omega), ?_⟩
        rw [if_pos h0, e]
/-- both name the same columns -/
theorem col_no (hS : li_S A I B J n lw) (h : gx_C A n N col B J lw b r) (hZ : J 5 = 0 → N = 0) {x : Int32} (hx : J 5 = 0 ∨ mo_lf (B 3) x n = -1) : ¬ (0 ≤ x ∧ x < nI N) := fun z => by
  obtain ⟨hn, hI8, hJ4, hr, hI9, hlw, -⟩ := hS
  obtain ⟨c, hc, rfl⟩ := nI_of (Int32.not_lt.mpr z.1)
  by_cases y : J 5 = 0
  · rw [hZ y] at z
    exact nI_pos (by omega) z.2
  · obtain ⟨c1, -⟩ := h y
    have hl := mo_lv_le (B 3) n
    have hcl := (nI_ltI hc (by omega)).mp z.2
    obtain ⟨f, f1, f2, f3⟩ := lf_ex (G := B 3) (c := c) n (by omega)
    exact lf_no n hn (hx.resolve_left y) f f1 f2 (by rw [f3])
theorem col_yes (hS : li_S A I B J n lw) (h : gx_C A n N col B J lw b r) (h5 : ¬ J 5 = 0) {x : Int32} {f : Nat} (hf : f < n) (hx : mo_lf (B 3) x n = nI f) : B 3 f = 0 ∧ x = nI (mo_lv (B 3) f) ∧ (0 ≤ x ∧ x < nI N) ∧ col x.toNatClampNeg = en_of A B f r ∧ (en_of A B f r).length ≤ r + b := by
  obtain ⟨hn, hI8, hJ4, hr, hI9, hlw, -⟩ := hS
  obtain ⟨c1, c2⟩ := h h5
  have hl := mo_lv_le (B 3) n
  rcases mo_lf_or (B 3) x n with z | ⟨g, g1, g2, g3, g4⟩
  · exact absurd (hx.symm.trans z) (nI_nm1 (by omega))
  · have : g = f := (nI_eq (by omega) (by omega)).mp (g2.symm.trans hx)
    subst this
    have hl2 := mlv_lt g1 g3
    refine ⟨g3, g4, ⟨by rw [g4]; exact nI_pos' (by omega), by rw [g4]; exact nI_lt (by omega) (by omega)⟩, ?_⟩
    rw [g4, nI_clamp (by omega)]
    exact c2 g hf g3
/-- an entry's parts -/
theorem rd_what {N : Nat} {col : Nat → List co_E} {x kx wh v : Int32} {L : List co_E} (hx : 0 ≤ x ∧ x < nI N) (hL : col x.toNatClampNeg = L) (hl : L.length < 2 ^ 31) (hv : (v = -1 ∧ ∀ κ, κ < L.length → ¬ kx = nI κ) ∨ ∃ κ en, kx = nI κ ∧ L[κ]? = some en ∧ v = mo_what en wh) : co_rd N col x kx wh = v := by
  unfold co_rd
  rw [if_pos hx, hL]
  rcases hv with ⟨z, z2⟩ | ⟨κ, en, z1, z2, z3⟩
  · rw [z]
    split
    · rfl
    · rename_i y
      obtain ⟨κ, hκ, e⟩ := nI_of (x := kx) (fun q => y (Or.inl q))
      rw [e, nI_clamp hκ, List.getElem?_eq_none]
      rcases Nat.lt_or_ge κ L.length with q | q
      · exact absurd e (z2 κ q)
      · exact q
  · have hκ : κ < L.length := (List.getElem?_eq_some_iff.mp z2).1
    rw [z1, nI_clamp (by omega), z2, z3]
    unfold mo_what
    split
    · rename_i y
      rcases y with y | y | y
      · exact absurd y (nI_pos (by omega))
      · rw [if_neg (fun q => by rw [q] at y; exact absurd y (by decide)), if_neg (fun q => by rw [q] at y; exact absurd y (by decide)), if_neg (fun q => by rw [q] at y; exact absurd y (by decide))]
      · rw [if_neg (fun q => by rw [q] at y; exact absurd y (by decide)), if_neg (fun q => by rw [q] at y; exact absurd y (by decide)), if_neg (fun q => by rw [q] at y; exact absurd y (by decide))]
    · rename_i y
      obtain ⟨j, hj, e⟩ := nI_of2 (x := wh) (M := 2) (n := 2) (by decide) (fun q => y (Or.inr (Or.inl q))) (Int32.not_lt.mp (fun q => y (Or.inr (Or.inr (by
        obtain ⟨j, hj, e⟩ := nI_of (x := wh) (fun p => y (Or.inr (Or.inl p)))
        rw [e] at q ⊢
        rw [show (2 : Int32) = nI 2 from rfl, nI_ltI (by decide) hj] at q
        exact nI_le q hj)))))
      show co_pt en wh = _
      unfold co_pt
      rw [e]
      match j, hj with
      | 0, _ => rfl
      | 1, _ => rfl
      | 2, _ => rfl
end KF
