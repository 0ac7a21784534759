/-! THE REFERENCE: next, deeper, goesTo. -/
/-- the first of the t occurrences from k on that is of w and lies in ins; -1: none -/
def mo_nx (ofs aro : Nat → Int32) (w ins : Int32) : Nat → Nat → Int32
  | 0, _ => -1
  | t + 1, k => if ofs k = w ∧ aro k = ins then nI k else mo_nx ofs aro w ins t (k + 1)
theorem mo_nx_or (ofs aro : Nat → Int32) (w ins : Int32) : ∀ t k, mo_nx ofs aro w ins t k = -1 ∨ ∃ q, k ≤ q ∧ q < k + t ∧ mo_nx ofs aro w ins t k = nI q ∧ ofs q = w ∧ aro q = ins
  | 0, k => Or.inl rfl
  | t + 1, k => by
    unfold mo_nx
    by_cases h : ofs k = w ∧ aro k = ins
    · rw [if_pos h]
      exact Or.inr ⟨k, Nat.le_refl _, by omega, rfl, h.1, h.2⟩
    · rw [if_neg h]
      rcases mo_nx_or ofs aro w ins t (k + 1) with q | ⟨q, q1, q2, q3⟩
      · exact Or.inl q
      · exact Or.inr ⟨q, by omega, by omega, q3⟩
/-- the way down from at i on: the occurrences gone into, and how far -/
def mo_dp (ofs aro way : Nat → Int32) (e : Nat) : Nat → (Nat → Int32) → Nat → (Nat → Int32) × Nat
  | 0, at_, i => (at_, i)
  | t + 1, at_, i => if mo_nx ofs aro (way (i + 1)) (at_ i) (e - ((at_ i).toNatClampNeg + 1)) ((at_ i).toNatClampNeg + 1) = -1 then (upd at_ (i + 1) (-1), i) else mo_dp ofs aro way e t (upd at_ (i + 1) (mo_nx ofs aro (way (i + 1)) (at_ i) (e - ((at_ i).toNatClampNeg + 1)) ((at_ i).toNatClampNeg + 1))) (i + 1)
section MO8
variable {d o : Nat} {A : Nat → Nat → Int32} {I : Nat → Int32} {σ0 σ : ri_S} {Q : Option Value → ri_S → Prop}
set_option maxRecDepth 100000 in
theorem mo_next_loop {rc fr ins : Int32} {u q e : Nat} (hP : mo_P o A I σ.1) (hrc : rc + 1 = nI u) (hu : u < 129) (he : A 7 u = nI e) (he2 : e ≤ 2048) (hq : q < 17) : ∀ (t k : Nat), k + t = e ∨ (e ≤ k ∧ t = 0 ∧ k ≤ 2048) → Q (some (.int (mo_nx (A 4) (A 6) (A 8 q) ins t k))) σ → ev_W d mMo_next (21, [some (.ref o), some (.int rc), some (.int (nI q)), some (.int fr), some (.int ins), some (.int (nI k))], []) σ Q := by
  intro t
  induction t with
  | zero =>
    intro k hk kk
    refine g_get rfl rfl rfl hP.1 rfl ?_
    refine mo_ald hP 7 rfl rfl rfl hrc hu (by decide) rfl ?_
    rw [he]
    refine g_br rfl rfl rfl rfl rfl rfl (fun h1 => ?_) (fun h1 => absurd (nI_le (by omega) (by omega)) h1)
    exact g_rt rfl rfl rfl kk
  | succ t ih =>
    intro k hk kk
    refine g_get rfl rfl rfl hP.1 rfl ?_
    refine mo_ald hP 7 rfl rfl rfl hrc hu (by decide) rfl ?_
    rw [he]
    refine g_br rfl rfl rfl rfl rfl rfl (fun h1 => absurd h1 (nI_ge (by omega) (by omega))) (fun h1 => ?_)
    unfold mo_nx at kk
    refine g_get rfl rfl rfl hP.1 rfl ?_
    refine mo_ald hP 4 rfl rfl rfl rfl (show k < 2048 by omega) (by decide) rfl ?_
    refine g_get rfl rfl rfl hP.1 rfl ?_
    refine mo_ald hP 8 rfl rfl rfl rfl hq (by decide) rfl ?_
    have nxt : ¬ (A 4 k = A 8 q ∧ A 6 k = ins) → ev_W d mMo_next (65, [some (.ref o), some (.int rc), some (.int (nI q)), some (.int fr), some (.int ins), some (.int (nI k))], []) σ Q := by
      intro z
      rw [if_neg z] at kk
      refine ev_go 2 rfl ?_
      show ev_W d mMo_next (21, [some (.ref o), some (.int rc), some (.int (nI q)), some (.int fr), some (.int ins), some (.int (nI k + 1))], []) σ Q
      rw [nI_1]
      exact ih (k + 1) (by omega) kk
    refine g_br rfl rfl rfl rfl rfl rfl (fun h2 => ?_) (fun h2 => ?_)
    · refine g_get rfl rfl rfl hP.1 rfl ?_
      refine mo_ald hP 6 rfl rfl rfl rfl (show k < 2048 by omega) (by decide) rfl ?_
      refine g_br rfl rfl rfl rfl rfl rfl (fun h3 => ?_) (fun h3 => ?_)
      · rw [if_pos ⟨h2, h3⟩] at kk
        exact g_rt rfl rfl rfl kk
      · exact nxt (fun z => h3 z.2)
    · exact nxt (fun z => h2 z.1)
/-- in what a step of the way is sought -/
def mo_ins (at_ : Nat → Int32) (q : Nat) : Int32 := match q with
  | 0 => -1
  | q + 1 => at_ q
set_option maxRecDepth 100000 in
/-- next(record, i, from) -/
theorem mo_next {rc iv fr : Int32} {u q e k : Nat} (hP : mo_P o A I σ.1) (hrc : rc + 1 = nI u) (hu : u < 129) (he : A 7 u = nI e) (he2 : e ≤ 2048) (hi : iv = nI q) (hq : q < 17) (hf : fr = nI k) (hk : k ≤ 2048) (kk : Q (some (.int (mo_nx (A 4) (A 6) (A 8 q) (mo_ins (A 9) q) (e - k) k))) σ) : ev_W d mMo_next (0, [some (.ref o), some (.int rc), some (.int iv), some (.int fr), none, none], []) σ Q := by
  subst hi
  subst hf
  have go : ∀ x : Int32, x = mo_ins (A 9) q → ev_W d mMo_next (16, [some (.ref o), some (.int rc), some (.int (nI q)), some (.int (nI k)), none, none], [.int x]) σ Q := by
    intro x hx
    subst hx
    refine ev_go 3 rfl ?_
    refine mo_next_loop hP hrc hu he he2 hq (e - k) k ?_ kk
    rcases Nat.le_total k e with z | z
    · exact Or.inl (by omega)
    · exact Or.inr ⟨z, by omega, hk⟩
  refine g_br rfl rfl rfl rfl rfl rfl (fun h1 => ?_) (fun h1 => ?_)
  · have e0 := (mo_e0 (show q < 2 ^ 31 by omega)).mp h1
    subst e0
    refine ev_go 2 rfl ?_
    exact go (-1) rfl
  · cases q with
    | zero => exact absurd rfl h1
    | succ q =>
      refine g_get rfl rfl rfl hP.1 rfl ?_
      refine mo_ald hP 9 rfl rfl rfl (nI_pred q) (show q < 17 by omega) (by decide) rfl ?_
      exact go (A 9 q) rfl
end MO8
