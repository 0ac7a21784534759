/-! THE REFERENCE'S OCCURRENCES AS A TREE, 3: from call to call. -/
def tr_f (A : Nat → Nat → Int32) (n : Nat) (B : Nat → Nat → Int32) (b e : Nat) : Prop := ∀ t, b ≤ t → t < e → ∃ w, w < n ∧ B 4 t = nI w ∧ (B 6 t = -1 ∧ A 0 w = -1 ∨ ∃ q u, b ≤ q ∧ q < t ∧ B 6 t = nI q ∧ B 4 q = nI u ∧ u < n ∧ A 0 w = nI u)
def tr_R (A : Nat → Nat → Int32) (n : Nat) (B : Nat → Nat → Int32) (b e : Nat) : Prop := tr_f A n B b e ∧ tr_o (B 4) (B 6) (B 3) b e
def tr_A (A : Nat → Nat → Int32) (n : Nat) (B : Nat → Nat → Int32) (J : Nat → Int32) (b k r : Nat) : Prop := ∃ Bn : Nat → Nat, (∀ i, i ≤ r → B 7 i = nI (Bn i) ∧ Bn i ≤ b) ∧ Bn r = b ∧ (∀ i, i < r → Bn i ≤ Bn (i + 1) ∧ tr_R A n B (Bn i) (Bn (i + 1))) ∧ tr_R A n B b (b + k) ∧ (k = 0 ∧ J 13 = -1 ∨ 0 < k ∧ as_rc (B 6) 2048 (J 13) 2048 (tr_st (B 4) (B 6) (B 3) (b + k - 1)))
section TA
variable {A : Nat → Nat → Int32} {B B' : Nat → Nat → Int32} {J J' : Nat → Int32} {n b k r e : Nat}
theorem tr_f.d (h : tr_f A n B b e) : tr_d (B 6) b e := fun t h1 h2 => by
  obtain ⟨w, -, -, z | ⟨q, u, q1, q2, q3, -⟩⟩ := h t h1 h2
  · exact Or.inl z.1
  · exact Or.inr ⟨q, q1, q2, q3⟩
theorem tr_R.cg (h : tr_R A n B b e) (he : e ≤ 2048) (h4 : ∀ q, q < e → B' 4 q = B 4 q) (h6 : ∀ q, q < e → B' 6 q = B 6 q) (h3 : B' 3 = B 3) : tr_R A n B' b e := by
  obtain ⟨hf, ho1, ho2⟩ := h
  have hd := hf.d
  refine ⟨fun t t1 t2 => ?_, fun z => ?_, fun t t1 t2 => ?_⟩
  · obtain ⟨w, hw, e4, z⟩ := hf t t1 t2
    rw [h4 t t2, h6 t t2]
    refine ⟨w, hw, e4, ?_⟩
    rcases z with z | ⟨q, u, q1, q2, q3, q4, q5⟩
    · exact Or.inl z
    · exact Or.inr ⟨q, u, q1, q2, q3, (h4 q (by omega)).trans q4, q5⟩
  · rw [h6 b z]; exact ho1 z
  · have est : tr_st (B' 4) (B' 6) (B' 3) (t - 1) = tr_st (B 4) (B 6) (B 3) (t - 1) := by
      unfold tr_st
      rw [h4 (t - 1) (by omega), h6 (t - 1) (by omega), h3]
    rw [est, h6 t t2]
    exact rc_cg hd he (fun q _ q2 => h6 q q2) 2048 _ ((tr_st_v hd (by omega) (by omega)).up (by omega)) (ho2 t t1 t2)
theorem tr_R.nil : tr_R A n B b b := ⟨fun t h1 h2 => absurd h2 (by omega), fun z => absurd z (Nat.lt_irrefl _), fun t h1 h2 => absurd h2 (by omega)⟩
theorem tr_A.begin (h : tr_A A n B J b 0 r) {x : Int32} (hx : x = nI b) {J' : Nat → Int32} (hJ : J' 13 = -1) : tr_A A n (va_up B 7 (upd (B 7) r x)) J' b 0 r := by
  obtain ⟨Bn, h1, h2, h3, h4, -⟩ := h
  refine ⟨Bn, fun i hi => ?_, h2, h3, h4, Or.inl ⟨rfl, hJ⟩⟩
  show upd (B 7) r x i = nI (Bn i) ∧ Bn i ≤ b
  unfold upd
  by_cases z : i = r
  · rw [if_pos z, z, h2]
    exact ⟨hx, Nat.le_refl _⟩
  · rw [if_neg z]
    exact h1 i hi
theorem tr_A.drop (h : tr_A A n B J b k r) {J' : Nat → Int32} (hJ : J' 13 = -1) : tr_A A n B J' b 0 r := by
  obtain ⟨Bn, h1, h2, h3, h4, -⟩ := h
  exact ⟨Bn, h1, h2, h3, tr_R.nil, Or.inl ⟨rfl, hJ⟩⟩
theorem tr_A.inner (h : tr_A A n B J b k r) (hb : b + k ≤ 2048) {q : Nat} (hq : J 13 = nI q) (q1 : b ≤ q) (q2 : q < b + k) {J' : Nat → Int32} (hJ : J' 13 = B 6 q) : tr_A A n B J' b k r := by
  obtain ⟨Bn, h1, h2, h3, h4, h5⟩ := h
  have hd := h4.1.d
  rcases h5 with ⟨z1, z2⟩ | ⟨z1, z2⟩
  · omega
  · refine ⟨Bn, h1, h2, h3, h4, Or.inr ⟨z1, ?_⟩⟩
    rw [hJ]
    have one : as_rc (B 6) 2048 (B 6 q) 1 (J 13) := Or.inr ⟨q, by omega, hq, rfl⟩
    exact rc_cut48 hd hb ((tr_st_v hd (by omega) (by omega)).up (by omega)) (rc_tr one 2048 _ z2)
theorem tr_A.outer (h : tr_A A n B J b k r) {J' : Nat → Int32} (hJ : J' 13 = -1) : tr_A A n (va_up B 7 (upd (B 7) (r + 1) (nI (b + k)))) J' (b + k) 0 (r + 1) := by
  obtain ⟨Bn, h1, h2, h3, h4, h5⟩ := h
  refine ⟨fun i => if i = r + 1 then b + k else Bn i, fun i hi => ?_, if_pos rfl, fun i hi => ?_, tr_R.nil, Or.inl ⟨rfl, hJ⟩⟩
  · show upd (B 7) (r + 1) (nI (b + k)) i = nI (if i = r + 1 then b + k else Bn i) ∧ (if i = r + 1 then b + k else Bn i) ≤ b + k
    unfold upd
    by_cases z : i = r + 1
    · rw [if_pos z, if_pos z]
      exact ⟨rfl, Nat.le_refl _⟩
    · rw [if_neg z, if_neg z]
      have := h1 i (by omega)
      exact ⟨this.1, by omega⟩
  · show (if i = r + 1 then b + k else Bn i) ≤ (if i + 1 = r + 1 then b + k else Bn (i + 1)) ∧ tr_R A n _ (if i = r + 1 then b + k else Bn i) (if i + 1 = r + 1 then b + k else Bn (i + 1))
    rw [if_neg (by omega)]
    by_cases z : i = r
    · rw [if_pos (by omega), z, h2]
      exact ⟨by omega, h4⟩
    · rw [if_neg (by omega)]
      exact h3 i (by omega)
/-- an occurrence comes -/
theorem tr_A.come (h : tr_A A n B J b k r) (hb : b + k < 2048) {w : Nat} {v : Int32} (hw : w < n) (hn : n ≤ 48) (hps : J 13 = -1 ∧ A 0 w = -1 ∨ ∃ q u, b ≤ q ∧ q < b + k ∧ J 13 = nI q ∧ B 4 q = nI u ∧ u < n ∧ A 0 w = nI u) {J' : Nat → Int32} (hJ : B 3 w = 0 ∧ J' 13 = J 13 ∨ ¬ B 3 w = 0 ∧ J' 13 = nI (b + k)) :
    tr_A A n (va_up (va_up (va_up B 4 (upd (B 4) (b + k) (nI w))) 5 (upd (B 5) (b + k) v)) 6 (upd (B 6) (b + k) (J 13))) J' b (k + 1) r := by
  obtain ⟨Bn, h1, h2, h3, h4, h5⟩ := h
  have n4 : ∀ t, t < b + k → upd (B 4) (b + k) (nI w) t = B 4 t := fun t ht => if_neg (by omega)
  have n6 : ∀ t, t < b + k → upd (B 6) (b + k) (J 13) t = B 6 t := fun t ht => if_neg (by omega)
  have m4 : upd (B 4) (b + k) (nI w) (b + k) = nI w := if_pos rfl
  have m6 : upd (B 6) (b + k) (J 13) (b + k) = J 13 := if_pos rfl
  have hd := h4.1.d
  obtain ⟨g1, g2, g3⟩ := h4.cg (B' := va_up (va_up (va_up B 4 (upd (B 4) (b + k) (nI w))) 5 (upd (B 5) (b + k) v)) 6 (upd (B 6) (b + k) (J 13))) (by omega) n4 n6 rfl
  refine ⟨Bn, h1, h2, fun i hi => ⟨(h3 i hi).1, ?_⟩, ⟨fun t t1 t2 => ?_, fun z => ?_, fun t t1 t2 => ?_⟩, Or.inr ⟨by omega, ?_⟩⟩
  · have hle : Bn (i + 1) ≤ b := (h1 (i + 1) (by omega)).2
    exact (h3 i hi).2.cg (by omega) (fun q hq => n4 q (by omega)) (fun q hq => n6 q (by omega)) rfl
  · by_cases z : t = b + k
    · subst z
      refine ⟨w, hw, m4, ?_⟩
      show upd (B 6) (b + k) (J 13) (b + k) = -1 ∧ A 0 w = -1 ∨ ∃ q u, b ≤ q ∧ q < b + k ∧ upd (B 6) (b + k) (J 13) (b + k) = nI q ∧ upd (B 4) (b + k) (nI w) q = nI u ∧ u < n ∧ A 0 w = nI u
      rw [m6]
      rcases hps with y | ⟨q, u, q1, q2, q3, q4, q5⟩
      · exact Or.inl y
      · exact Or.inr ⟨q, u, q1, q2, q3, (n4 q q2).trans q4, q5⟩
    · exact g1 t t1 (by omega)
  · rcases h5 with ⟨z1, z2⟩ | ⟨z1, z2⟩
    · subst z1
      exact m6.trans z2
    · exact g2 (by omega)
  · by_cases z : t = b + k
    · subst z
      rcases h5 with ⟨z1, z2⟩ | ⟨z1, z2⟩
      · omega
      · have est : tr_st (upd (B 4) (b + k) (nI w)) (upd (B 6) (b + k) (J 13)) (B 3) (b + k - 1) = tr_st (B 4) (B 6) (B 3) (b + k - 1) := by
          unfold tr_st
          rw [n4 _ (by omega), n6 _ (by omega)]
        show as_rc (upd (B 6) (b + k) (J 13)) 2048 (upd (B 6) (b + k) (J 13) (b + k)) 2048 (tr_st (upd (B 4) (b + k) (nI w)) (upd (B 6) (b + k) (J 13)) (B 3) (b + k - 1))
        rw [m6, est]
        exact rc_cg hd (by omega) (fun q _ q2 => n6 q q2) 2048 _ ((tr_st_v hd (by omega) (by omega)).up (by omega)) z2
    · exact g3 t t1 (by omega)
  · show as_rc (upd (B 6) (b + k) (J 13)) 2048 (J' 13) 2048 (tr_st (upd (B 4) (b + k) (nI w)) (upd (B 6) (b + k) (J 13)) (B 3) (b + k))
    unfold tr_st
    rw [m4, m6, nI_clamp (by omega)]
    rcases hJ with ⟨z1, z2⟩ | ⟨z1, z2⟩
    · rw [if_pos z1, z2]; exact rc_rf _
    · rw [if_neg z1, z2]; exact rc_rf _
/-- nothing that is read here has changed -/
theorem tr_A.same (h : tr_A A n B J b k r) (h3 : B' 3 = B 3) (h4 : B' 4 = B 4) (h6 : B' 6 = B 6) (h7 : B' 7 = B 7) (hJ : J' 13 = J 13) : tr_A A n B' J' b k r := by
  unfold tr_A tr_R tr_f at *
  rw [h3, h4, h6, h7, hJ]
  exact h
/-- the events can be told -/
theorem tr_tell (h : tr_R A n B b e) (he : e ≤ 2048) (hn : n ≤ 48) (hup : mo_up (A 0) n) {w val : Nat → Int32} {lo hi : Int32} {z : Nat → Int32} (hw : w = mo_wd (A 0) (B 3) lo hi n (mo_z z n) n) (hbe : b ≤ e) : as_ok (B 4) (B 6) (B 3) w 2048 2048 (e - b) b (-1) ∧ (as_ev (B 4) (B 6) val (B 3) w 2048 (e - b) b (-1)).length ≤ 4096 := by
  have hd := h.1.d
  have hok : as_ok (B 4) (B 6) (B 3) w 2048 2048 (e - b) b (-1) := by
    refine as_ok_of hd he h.2 (fun t t1 t2 => ?_) (fun t t1 t2 hwt => ?_) (e - b) b (-1) (-1) (by omega) (Nat.le_refl _) (Or.inl ⟨rfl, rfl⟩) (Or.inl rfl) (fun tg _ hr => hr)
    · obtain ⟨f, hf, e4, -⟩ := h.1 t t1 t2
      exact ⟨f, by omega, e4⟩
    · obtain ⟨f, hf, e4, y | ⟨q, u, q1, q2, q3, q4, q5, q6⟩⟩ := h.1 t t1 t2
      · exact Or.inl y.1
      · refine Or.inr ⟨q, q1, by omega, q3, ?_⟩
        rw [q4, nI_clamp (by omega)]
        rw [e4, nI_clamp (by omega)] at hwt
        subst hw
        exact wd_up hup hn n (Nat.le_refl _) f u hf q6 q5 hwt
  refine ⟨hok, ?_⟩
  have h1 := as_len (val := val) hd he (e - b) b (-1) (by omega) (Nat.le_refl _) (Or.inl rfl) hok
  have h2 : as_pp (B 4) (B 6) (-1) 2048 (-1) = [] := if_pos rfl
  rw [h2] at h1
  have h3 : ([] : List as_E).length = 0 := rfl
  omega
end TA
