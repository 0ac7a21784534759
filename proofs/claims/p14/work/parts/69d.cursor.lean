/-! A RECORD PUT TOGETHER, 3: the cursors. -/
/-- from column c's cursor on stands L -/
def pc_at (col : Nat → List co_E) (C : Nat → Int32) (c : Nat) (L : List co_E) : Prop := ∃ κ, C c = nI κ ∧ κ + L.length = (col c).length ∧ (col c).drop κ = L ∧ (col c).length ≤ 2176
section CU
variable {N : Nat} {col : Nat → List co_E} {C : Nat → Int32} {c : Nat} {en : co_E} {t : List co_E}
theorem pc_rd (hc : c < N) (hN : N ≤ 48) (h : pc_at col C c (en :: t)) {wh : Int32} (hw : wh = 0 ∨ wh = 1 ∨ wh = 2) : pu_peek N col C (nI c) wh = co_pt en wh := by
  obtain ⟨κ, h1, h2, h3, h4⟩ := h
  have hl : κ < (col c).length := by rw [List.length_cons] at h2; omega
  have h5 : (col c)[κ]? = some en := by
    have := congrArg (fun l => l[0]?) h3
    simp only [List.getElem?_drop] at this
    simpa using this
  unfold pu_peek co_rd
  rw [if_neg (pu_cur (by omega)), if_pos (co_in hN hc), nI_clamp (by omega), h1, if_neg, nI_clamp (by omega), h5]
  rintro (y | y | y)
  · exact nI_pos (by omega) y
  · rcases hw with z | z | z <;> rw [z] at y <;> exact absurd y (by decide)
  · rcases hw with z | z | z <;> rw [z] at y <;> exact absurd y (by decide)
theorem pc_end (hc : c < N) (hN : N ≤ 48) (h : pc_at col C c []) {wh : Int32} : pu_peek N col C (nI c) wh = -1 := by
  obtain ⟨κ, h1, h2, h3, h4⟩ := h
  have hl : (col c).length ≤ κ := by
    have : ([] : List co_E).length = 0 := rfl
    omega
  unfold pu_peek co_rd
  rw [if_neg (pu_cur (by omega)), if_pos (co_in hN hc), nI_clamp (by omega), h1]
  split
  · rfl
  · have : ([] : List co_E).length = 0 := rfl
    rw [nI_clamp (by omega), List.getElem?_eq_none hl]
theorem pc_next (h : pc_at col C c (en :: t)) {C' : Nat → Int32} (hC : C' c = C c + 1) : pc_at col C' c t := by
  obtain ⟨κ, h1, h2, h3, h4⟩ := h
  refine ⟨κ + 1, by rw [hC, h1, nI_1], by rw [List.length_cons] at h2; omega, ?_, h4⟩
  have : (col c).drop (κ + 1) = ((col c).drop κ).drop 1 := by rw [List.drop_drop]
  rw [this, h3]
  rfl
theorem pc_cg {L : List co_E} (h : pc_at col C c L) {C' : Nat → Int32} (hC : C' c = C c) : pc_at col C' c L := by
  obtain ⟨κ, h1, h2⟩ := h
  exact ⟨κ, hC.trans h1, h2⟩
theorem pass_at {c' : Nat} (hc' : c' < 48) : pu_pass C (nI c') c = if c = c' then C c + 1 else C c := by
  unfold pu_pass
  rw [if_neg (pu_cur hc'), nI_clamp (by omega)]
  unfold upd
  by_cases z : c = c'
  · rw [if_pos z, if_pos z, z]
  · rw [if_neg z, if_neg z]
theorem pall_at {s : Int64} : ∀ (m c0 : Nat) (C : Nat → Int32), c0 + m ≤ 48 → pu_pall s m c0 C c = if c0 ≤ c ∧ c < c0 + m ∧ ¬ st_hv s (nI c) = 0 then C c + 1 else C c
  | 0, c0, C, _ => by rw [if_neg (fun z => by omega)]; rfl
  | m + 1, c0, C, hm => by
    show pu_pall s m (c0 + 1) (if st_hv s (nI c0) = 0 then C else pu_pass C (nI c0)) c = _
    rw [pall_at m (c0 + 1) _ (by omega)]
    by_cases z : c = c0
    · subst z
      rw [if_neg (fun z => by omega)]
      by_cases y : st_hv s (nI c) = 0
      · rw [if_pos y, if_neg (fun z => z.2.2 y)]
      · rw [if_neg y, if_pos ⟨Nat.le_refl _, by omega, y⟩, pass_at (by omega), if_pos rfl]
    · have ec : (if st_hv s (nI c0) = 0 then C else pu_pass C (nI c0)) c = C c := by
        split
        · rfl
        · rw [pass_at (by omega), if_neg z]
      rw [ec]
      by_cases y : c0 + 1 ≤ c ∧ c < c0 + 1 + m ∧ ¬ st_hv s (nI c) = 0
      · rw [if_pos y, if_pos ⟨by omega, by omega, y.2.2⟩]
      · rw [if_neg y, if_neg (fun x => y ⟨by omega, by omega, x.2.2⟩)]
theorem lo_no {s : Int64} : ∀ (m c0 : Nat), c0 + m ≤ 48 → st_lo s m c0 = -1 → ∀ c, c0 ≤ c → c < c0 + m → st_hv s (nI c) = 0
  | 0, _, _, _, c, h1, h2 => by omega
  | m + 1, c0, hm, h, c, h1, h2 => by
    have h' : (if st_hv s (nI c0) = 0 then st_lo s m (c0 + 1) else nI c0) = -1 := h
    by_cases z : st_hv s (nI c0) = 0
    · rw [if_pos z] at h'
      by_cases y : c = c0
      · rw [y]; exact z
      · exact lo_no m (c0 + 1) (by omega) h' c (by omega) (by omega)
    · rw [if_neg z] at h'
      exact absurd h' (nI_nm1 (by omega))
theorem lo_yes {s : Int64} : ∀ (m c0 : Nat), c0 + m ≤ 48 → ¬ st_lo s m c0 = -1 → ∃ c, c < 48 ∧ st_lo s m c0 = nI c ∧ ¬ st_hv s (nI c) = 0
  | 0, _, _, h => absurd rfl h
  | m + 1, c0, hm, h => by
    have e : st_lo s (m + 1) c0 = if st_hv s (nI c0) = 0 then st_lo s m (c0 + 1) else nI c0 := rfl
    rw [e] at h ⊢
    by_cases z : st_hv s (nI c0) = 0
    · rw [if_pos z] at h ⊢
      exact lo_yes m (c0 + 1) (by omega) h
    · rw [if_neg z]
      exact ⟨c0, by omega, rfl, z⟩
theorem hv_and {s1 s2 : Int64} (hc : c < 48) : ¬ st_hv (s1 &&& s2) (nI c) = 0 ↔ ¬ st_hv s1 (nI c) = 0 ∧ ¬ st_hv s2 (nI c) = 0 := by
  rw [hv_bit hc, hv_bit hc, hv_bit hc, Int64.toBitVec_and, BitVec.getLsbD_and, Bool.and_eq_true]
theorem es_ad_ok {ev T X : List (Int32 × Int32)} {x : Int32 × Int32} (h : T = ev ++ x :: X) (hl : T.length ≤ 4096) : es_ad ev x = ev ++ [x] ∧ T = es_ad ev x ++ X := by
  have h1 : ev.length < 4096 := by
    rw [h, List.length_append, List.length_cons] at hl
    omega
  unfold es_ad
  rw [if_pos h1]
  refine ⟨rfl, ?_⟩
  rw [h, List.append_assoc]
  rfl
end CU
/-- what stands behind a list of a group whose repetition is k: nothing, or an entry that repeats at most there -/
def rs_ok (k : Nat) (L : List co_E) : Prop := ∀ en t, L = en :: t → ∃ r, en.1 = nI r ∧ r ≤ k
theorem rs_ok.le {k k' : Nat} {L : List co_E} (h : rs_ok k L) (hk : k ≤ k') : rs_ok k' L := fun en t e => by
  obtain ⟨r, h1, h2⟩ := h en t e
  exact ⟨r, h1, by omega⟩
