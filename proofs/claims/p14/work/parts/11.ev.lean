/-! RUNS BY THEIR ENDS: ev_W d M F σ Q: the small machine, with d calls to spare, comes from F to an answer and cells with Q. -/
theorem ri_more : ∀ (n d : Nat) (M : ri_M) (F : ri_F) (σ : ri_S) (r : Option Value × ri_S) (k : Nat), ri_run n d M F σ = some r → ri_run (n + k) d M F σ = some r := by
  intro n
  induction n with
  | zero => intro d M F σ r k h; cases h
  | succ n ih =>
    intro d M F σ r k h
    rw [Nat.add_right_comm]
    unfold ri_run at h ⊢
    split at h
    · cases h
    · rename_i x hx
      try rw [hx]
      try dsimp only
      split at h
      · rename_i v hv
        try rw [hv]
        exact h
      · rename_i hv
        try rw [hv]
        try dsimp only
        split at h
        · rename_i M' as rr hc
          try rw [hc]
          try dsimp only
          split at h
          · rename_i d' hb
            try rw [hb]
            try dsimp only
            split at h
            · cases h
            · rename_i v σ' h1
              rw [ih _ _ _ _ _ k h1]
              try dsimp only
              exact ih _ _ _ _ _ k h
          · cases h
        · rename_i hc
          try rw [hc]
          try dsimp only
          split at h
          · rename_i st' σ' h1
            try rw [h1]
            try dsimp only
            split at h
            · cases h
            · exact ih _ _ _ _ _ k h
          · rename_i h1
            try rw [h1]
            try dsimp only
            split at h
            · rename_i F' h2
              try rw [h2]
              exact ih _ _ _ _ _ k h
            · rename_i h2
              try rw [h2]
              try dsimp only
              split at h
              · rename_i st' σ' h3
                try rw [h3]
                exact ih _ _ _ _ _ k h
              · cases h
def ev_W (d : Nat) (M : ri_M) (F : ri_F) (σ : ri_S) (Q : Option Value → ri_S → Prop) : Prop := ∃ (n : Nat) (v : Option Value) (σ' : ri_S), ri_run n d M F σ = some (v, σ') ∧ Q v σ'
section EVW
variable {d : Nat} {M : ri_M} {pc : Nat} {L : List (Option Value)} {st : List Value} {σ : ri_S} {Q : Option Value → ri_S → Prop} {x : Instr × Nat × Nat × Int32}
theorem ev_W.mono {F : ri_F} {Q' : Option Value → ri_S → Prop} (h : ev_W d M F σ Q) (k : ∀ v σ', Q v σ' → Q' v σ') : ev_W d M F σ Q' := by
  obtain ⟨n, v, σ', h1, h2⟩ := h
  exact ⟨n, v, σ', h1, k v σ' h2⟩
/-- a return -/
theorem ev_rt {v : Option Value} (hf : ri_find pc M.2.2.2.2.2 = some x) (h : ri_rt M x.1 st = some v) (k : Q v σ) : ev_W d M (pc, L, st) σ Q := by
  refine ⟨1, v, σ, ?_, k⟩
  unfold ri_run
  dsimp only
  rw [hf]
  dsimp only
  rw [h]
/-- a step without cells -/
theorem ev_px {F' : ri_F} (hf : ri_find pc M.2.2.2.2.2 = some x) (h1 : ri_rt M x.1 st = none) (h2 : ri_cl M x.1 st σ = none) (h3 : ri_lf M x.1 st σ = none) (h : ri_px M.1 x L st = some F') (k : ev_W d M F' σ Q) : ev_W d M (pc, L, st) σ Q := by
  obtain ⟨n, v, σ', g1, g2⟩ := k
  refine ⟨n + 1, v, σ', ?_, g2⟩
  unfold ri_run
  dsimp only
  rw [hf]
  dsimp only
  rw [h1]
  dsimp only
  rw [h2]
  dsimp only
  rw [h3]
  dsimp only
  rw [h]
  exact g1
/-- a branch -/
theorem ev_br {P : Prop} [hP : Decidable P] {a b : Nat} {L' : List (Option Value)} {st' : List Value} (hf : ri_find pc M.2.2.2.2.2 = some x) (h1 : ri_rt M x.1 st = none) (h2 : ri_cl M x.1 st σ = none) (h3 : ri_lf M x.1 st σ = none) (h : ri_px M.1 x L st = some (if P then a else b, L', st')) (kt : P → ev_W d M (a, L', st') σ Q) (kf : ¬ P → ev_W d M (b, L', st') σ Q) : ev_W d M (pc, L, st) σ Q := by
  refine ev_px hf h1 h2 h3 h ?_
  by_cases q : P
  · rw [if_pos q]; exact kt q
  · rw [if_neg q]; exact kf q
/-- a step with cells -/
theorem ev_hx {st' : List Value} {σ' : ri_S} (hf : ri_find pc M.2.2.2.2.2 = some x) (h1 : ri_rt M x.1 st = none) (h2 : ri_cl M x.1 st σ = none) (h3 : ri_lf M x.1 st σ = none) (h4 : ri_px M.1 x L st = none) (h : ri_hx M x.1 st σ = some (st', σ')) (k : ev_W d M (x.2.1, L, st') σ' Q) : ev_W d M (pc, L, st) σ Q := by
  obtain ⟨n, v, σ1, g1, g2⟩ := k
  refine ⟨n + 1, v, σ1, ?_, g2⟩
  unfold ri_run
  dsimp only
  rw [hf]
  dsimp only
  rw [h1]
  dsimp only
  rw [h2]
  dsimp only
  rw [h3]
  dsimp only
  rw [h4]
  dsimp only
  rw [h]
  exact g1
/-- Object's constructor -/
theorem ev_lf {st' : List Value} {σ' : ri_S} (hf : ri_find pc M.2.2.2.2.2 = some x) (h1 : ri_rt M x.1 st = none) (h2 : ri_cl M x.1 st σ = none) (h : ri_lf M x.1 st σ = some (st', σ')) (k : ev_W (d + 1) M (x.2.1, L, st') σ' Q) : ev_W (d + 1) M (pc, L, st) σ Q := by
  obtain ⟨n, v, σ1, g1, g2⟩ := k
  refine ⟨n + 1, v, σ1, ?_, g2⟩
  unfold ri_run
  dsimp only
  rw [hf]
  dsimp only
  rw [h1]
  dsimp only
  rw [h2]
  dsimp only
  rw [h]
  exact g1
/-- a call -/
theorem ev_cl {M' : ri_M} {as r : List Value} (hf : ri_find pc M.2.2.2.2.2 = some x) (h1 : ri_rt M x.1 st = none) (h : ri_cl M x.1 st σ = some (M', as, r)) (hb : Nat.ble (ri_ent as).length M'.2.2.2.1 = true) (k : ev_W d M' (0, ri_loc M'.2.2.2.1 as, []) σ (fun v σ' => ev_W (d + 1) M (x.2.1, L, v.toList ++ r) σ' Q)) : ev_W (d + 1) M (pc, L, st) σ Q := by
  obtain ⟨n, v, σ1, g1, n2, v2, σ2, g2, g3⟩ := k
  refine ⟨n + n2 + 1, v2, σ2, ?_, g3⟩
  unfold ri_run
  dsimp only
  rw [hf]
  dsimp only
  rw [h1]
  dsimp only
  rw [h]
  dsimp only
  rw [hb]
  dsimp only
  rw [ri_more _ _ _ _ _ _ n2 g1]
  dsimp only
  rw [Nat.add_comm n n2]
  exact ri_more _ _ _ _ _ _ n g2
end EVW
