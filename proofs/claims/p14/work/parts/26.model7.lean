/-! THE REFERENCE: its making, next, wants. -/
theorem ri_up_s {h : Nat → Option ri_E} {a : Nat} {e : ri_E} : ri_up h a e a = some e := if_pos rfl
theorem ri_up_n {h : Nat → Option ri_E} {a q : Nat} {e : ri_E} (hq : q ≠ a) : ri_up h a e q = h q := if_neg hq
/-- the reference half made: k arrays stand -/
def mi_P (o k : Nat) (fs : List Value) (sl : Nat) (σ0 σ : ri_S) : Prop := σ.1 o = some (.inr (5, fs)) ∧ (∀ j, j < k → σ.1 (o + 1 + j) = some (.inl (mo_ty j, mo_len j, .inl fun _ => 0))) ∧ σ.2.1 = o + 1 + k ∧ σ.2.2 = sl ∧ ∀ a, a < o → σ.1 a = σ0.1 a
section MI
variable {d o k : Nat} {fs : List Value} {sl : Nat} {σ0 σ : ri_S} {Q : Option Value → ri_S → Prop} {M : ri_M} {F : ri_F} {pc np np2 tg tg2 : Nat} {kv kv2 : Int32} {L : List (Option Value)} {r : List Value}
theorem mi_put {j kf : Nat} {ty : FieldType} (hP : mi_P o k fs sl σ0 σ) (t : FieldType) (N : Nat) (ht : t = mo_ty k) (hN : N = mo_len k) (hf2 : ri_find np M.2.2.2.2.2 = some (.putfield kf, np2, tg2, kv2)) (hft : rt_f M.1 kf = some (5, j, .array ty, 1)) (hi : M.2.1.name = "<init>") (hj : Nat.blt j fs.length = true) (kk : ∀ σ' : ri_S, mi_P o (k + 1) (fs.set j (.ref (o + 1 + k))) (sl + N) σ0 σ' → ev_W d M (np2, L, r) σ' Q) :
    ev_W d M (np, L, .ref σ.2.1 :: .ref o :: r) (ri_up σ.1 σ.2.1 (.inl (t, N, .inl fun _ => 0)), σ.2.1 + 1, σ.2.2 + N) Q := by
  obtain ⟨h1, h2, h3, h4, h5⟩ := hP
  subst ht
  subst hN
  have ho : ri_up σ.1 σ.2.1 (.inl (mo_ty k, mo_len k, .inl fun _ => 0)) o = some (.inr (5, fs)) := by
    rw [ri_up_n (by omega)]; exact h1
  refine ev_putF hf2 hft hi ho rfl rfl hj ?_
  refine kk _ ⟨?_, fun q hq => ?_, ?_, ?_, fun a ha => ?_⟩
  · show ri_up _ _ _ o = _
    rw [ri_up_s, h3]
  · show ri_up _ _ _ (o + 1 + q) = _
    rw [ri_up_n (by omega)]
    by_cases e : q = k
    · subst e
      show ri_up _ _ _ _ = _
      rw [h3, ri_up_s]
    · show ri_up _ _ _ _ = _
      rw [ri_up_n (by omega)]
      exact h2 q (by omega)
  · show σ.2.1 + 1 = _
    omega
  · show σ.2.2 + _ = _
    rw [h4]
  · show ri_up _ _ _ a = _
    rw [ri_up_n (by omega)]
    show ri_up _ _ _ a = _
    rw [ri_up_n (by omega)]
    exact h5 a ha
theorem mi_i {n : Int32} {j kf : Nat} {ty : FieldType} (hP : mi_P o k fs sl σ0 σ) (hgo : ri_go 99 M F = (pc, L, .int n :: .ref o :: r)) (hf : ri_find pc M.2.2.2.2.2 = some (.newarray .int, np, tg, kv)) (hn : ¬ n < 0) (hN : n.toNatClampNeg = mo_len k) (ht : FieldType.int = mo_ty k) (hf2 : ri_find np M.2.2.2.2.2 = some (.putfield kf, np2, tg2, kv2)) (hft : rt_f M.1 kf = some (5, j, .array ty, 1)) (hi : M.2.1.name = "<init>") (hj : Nat.blt j fs.length = true) (kk : ∀ σ' : ri_S, mi_P o (k + 1) (fs.set j (.ref (o + 1 + k))) (sl + mo_len k) σ0 σ' → ev_W d M (np2, L, r) σ' Q) : ev_W d M F σ Q :=
  g_newi hgo hf hn hN (by unfold mo_len; split <;> decide) (mi_put hP _ _ ht rfl hf2 hft hi hj kk)
theorem mi_z {n : Int32} {j kf : Nat} {ty : FieldType} (hP : mi_P o k fs sl σ0 σ) (hgo : ri_go 99 M F = (pc, L, .int n :: .ref o :: r)) (hf : ri_find pc M.2.2.2.2.2 = some (.newarray .boolean, np, tg, kv)) (hn : ¬ n < 0) (hN : n.toNatClampNeg = mo_len k) (ht : FieldType.boolean = mo_ty k) (hf2 : ri_find np M.2.2.2.2.2 = some (.putfield kf, np2, tg2, kv2)) (hft : rt_f M.1 kf = some (5, j, .array ty, 1)) (hi : M.2.1.name = "<init>") (hj : Nat.blt j fs.length = true) (kk : ∀ σ' : ri_S, mi_P o (k + 1) (fs.set j (.ref (o + 1 + k))) (sl + mo_len k) σ0 σ' → ev_W d M (np2, L, r) σ' Q) : ev_W d M F σ Q :=
  g_newz hgo hf hn hN (by unfold mo_len; split <;> decide) (mi_put hP _ _ ht rfl hf2 hft hi hj kk)
theorem mi_n {v : Int32} {j kf : Nat} {ty : FieldType} (hP : mi_P o k fs sl σ0 σ) (hgo : ri_go 99 M F = (pc, L, .int v :: .ref o :: r)) (hf : ri_find pc M.2.2.2.2.2 = some (.putfield kf, np, tg, kv)) (hft : rt_f M.1 kf = some (5, j, ty, 0)) (hn : narrow ty (.int v) = .int v) (hfi : fits ty (.int v) = true) (hj : Nat.blt j fs.length = true) (kk : ∀ σ' : ri_S, mi_P o k (fs.set j (.int v)) sl σ0 σ' → ev_W d M (np, L, r) σ' Q) : ev_W d M F σ Q :=
  g_put hgo hf hft hP.1 hn hfi hj (kk _ ⟨ri_up_s, fun q hq => (ri_up_n (by omega)).trans (hP.2.1 q hq), hP.2.2.1, hP.2.2.2.1, fun a ha => (ri_up_n (by omega)).trans (hP.2.2.2.2 a ha)⟩)
end MI
/-- the numbers of a new one -/
def mo_I0 : Nat → Int32 := fun j => if j = 13 then -1 else 0
section MI2
variable {d o : Nat} {σ0 σ : ri_S} {Q : Option Value → ri_S → Prop}
set_option maxRecDepth 100000 in
set_option maxHeartbeats 1000000 in
/-- the constructor -/
theorem mo_init {sl : Nat} (hP : mi_P o 0 [.null, .null, .null, .null, .int 0, .int 0, .null, .null, .null, .int 0, .null, .int 0, .int 0, .int 0, .null, .null, .int 0, .int 0, .int 0, .int 0, .null, .null, .null, .int 0, .int 0] sl σ0 σ)
    (kk : ∀ σ' : ri_S, mo_P o (fun _ _ => 0) mo_I0 σ'.1 → σ'.2.1 = o + 14 → σ'.2.2 = sl + 14739 → (∀ a, a < o → σ'.1 a = σ0.1 a) → Q none σ') : ev_W (d + 1) mMo_init (0, [some (.ref o)], []) σ Q := by
  refine g_lf rfl rfl rfl rfl rfl ?_
  refine mi_i hP rfl rfl (by decide) rfl rfl rfl rfl rfl rfl (fun σ1 hP => ?_)
  refine mi_i hP rfl rfl (by decide) rfl rfl rfl rfl rfl rfl (fun σ1 hP => ?_)
  refine mi_i hP rfl rfl (by decide) rfl rfl rfl rfl rfl rfl (fun σ1 hP => ?_)
  refine mi_z hP rfl rfl (by decide) rfl rfl rfl rfl rfl rfl (fun σ1 hP => ?_)
  refine mi_i hP rfl rfl (by decide) rfl rfl rfl rfl rfl rfl (fun σ1 hP => ?_)
  refine mi_i hP rfl rfl (by decide) rfl rfl rfl rfl rfl rfl (fun σ1 hP => ?_)
  refine mi_i hP rfl rfl (by decide) rfl rfl rfl rfl rfl rfl (fun σ1 hP => ?_)
  refine mi_i hP rfl rfl (by decide) rfl rfl rfl rfl rfl rfl (fun σ1 hP => ?_)
  refine mi_n hP rfl rfl rfl rfl rfl rfl (fun σ1 hP => ?_)
  refine mi_i hP rfl rfl (by decide) rfl rfl rfl rfl rfl rfl (fun σ1 hP => ?_)
  refine mi_i hP rfl rfl (by decide) rfl rfl rfl rfl rfl rfl (fun σ1 hP => ?_)
  refine mi_z hP rfl rfl (by decide) rfl rfl rfl rfl rfl rfl (fun σ1 hP => ?_)
  refine mi_i hP rfl rfl (by decide) rfl rfl rfl rfl rfl rfl (fun σ1 hP => ?_)
  refine mi_i hP rfl rfl (by decide) rfl rfl rfl rfl rfl rfl (fun σ1 hP => ?_)
  refine g_rt rfl rfl rfl (kk σ1 ⟨hP.1, hP.2.1⟩ hP.2.2.1 hP.2.2.2.1 hP.2.2.2.2)
end MI2
