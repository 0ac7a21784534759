/-! THE LAW'S RUN ON THE SMALL MACHINE, from its start -/
theorem la_first (a3 : Nat → Nat) (D3 : Nat → Option ri_E) (σ3 : ri_S) {c1 c2 x0 m0 sb L : Nat} {xs : Nat → Int32} (hl : gl_P x0 m0 sb L xs a3 D3) (hc : cl_P c1 c2 a3 D3 σ3 (fun _ _ => 0) (fun _ => 0) (fun _ => 0) (fun _ => 0) (fun _ => 0) (fun _ => 0) (fun _ => 0) 0 0 0 0 (fun _ => []) [] 0 0) (hm : mh_P a3 D3 (fun _ _ => 0) mo_I0) : gi_P c1 c2 x0 m0 sb L xs σ3 := by
  refine ⟨a3, D3, _, _, _, _, _, _, _, 0, 0, 0, 0, _, [], 0, 0, _, _, 0, 0, 0, 0, hl, hc, hm, ?_, fun f hf => absurd hf (Nat.not_lt_zero _), ?_, ?_, fun _ => ⟨rfl, rfl, rfl, rfl, rfl⟩, ?_⟩
  · exact ⟨by decide, rfl, rfl, rfl, rfl, rfl, fun f hf => absurd hf (Nat.not_lt_zero _), fun f hf => absurd hf (Nat.not_lt_zero _), ⟨rfl, rfl, rfl⟩, fun f hf => absurd hf (Nat.not_lt_zero _), fun f hf => absurd hf (Nat.not_lt_zero _)⟩
  · exact ⟨⟨by decide, by decide, fun _ => ⟨rfl, rfl⟩, fun z => absurd rfl z⟩, ⟨rfl, rfl, rfl, rfl, rfl, rfl, Or.inl rfl⟩, fun t t1 t2 => absurd t2 (by omega), fun z => absurd rfl z⟩
  · exact ⟨fun _ => 0, fun i hi => ⟨rfl, Nat.le_refl _⟩, rfl, fun i hi => absurd hi (Nat.not_lt_zero _), tr_R.nil, Or.inl ⟨rfl, rfl⟩⟩
  · exact ⟨⟨⟨fun f hf => absurd hf (Nat.not_lt_zero _), fun f c hf => absurd hf (Nat.not_lt_zero _), fun f _ => rfl⟩, fun g f hg => absurd hg (Nat.not_lt_zero _)⟩, ⟨fun j hj => absurd hj (Nat.not_lt_zero _), fun q1 q2 z1 z2 z3 _ => absurd z3 (by omega), fun t t1 t2 => absurd t2 (by omega), fun t t1 => absurd t1 (by omega)⟩, fun i hi => absurd hi (Nat.not_lt_zero _), fun z => absurd rfl z, rfl, by decide, fun κ en h => by simp at h⟩
set_option maxRecDepth 100000 in
theorem pure_law (b z L : Nat) (xs : Nat → Int32) (hb : b < z) (hL : L ≤ 2048) : ev_W 1000 mLa_law (0, ri_loc 4 [Value.ref b], []) ((fun a => if a = b then some (.inl (.object "", L, .inl xs)) else none), z, 0) (fun v σ' => v = some (.int 1) ∧ σ'.2.1 ≤ z + 906147 ∧ σ'.2.2 ≤ 6383808) := by
  have hG0 : gw_P (fun _ => b) (fun i => if i = 98 then some (.inl (.object "", L, .inl xs)) else none) ((fun a => if a = b then some (.inl (.object "", L, .inl xs)) else none), z, 0) := by
    refine ⟨fun i j hi hj _ => ?_, fun i e he => ?_⟩
    · have h1 : i = 98 := by
        by_cases q : i = 98
        · exact q
        · exact absurd (if_neg q) hi
      have h2 : j = 98 := by
        by_cases q : j = 98
        · exact q
        · exact absurd (if_neg q) hj
      omega
    · dsimp only at he
      by_cases q : i = 98
      · rw [if_pos q] at he
        exact ⟨hb, (if_pos rfl).trans he⟩
      · rw [if_neg q] at he
        cases he
  refine mk_new hG0 0 (q := z) (sl := 0) rfl rfl rfl rfl rfl (fun σ1 hG1 e1 f1 => ?_)
  refine g_clC rfl rfl rfl (Or.inl rfl) rfl rfl rfl rfl ?_
  refine mk_striping hG1 rfl e1 f1 (fun a2 D2 σ2 hG2 ho2 hs2 hd2 he2 hC2 hc2 hF2 a20 e2 f2 => ?_)
  refine g_new rfl rfl rfl ?_
  refine g_clC rfl rfl rfl (Or.inl rfl) rfl rfl rfl rfl ?_
  refine mo_init (o := σ2.2.1) (σ0 := σ2) (sl := σ2.2.2 + 25) ⟨ri_up_s, fun j hj => absurd hj (Nat.not_lt_zero _), rfl, rfl, fun q hq => ri_up_n (Nat.ne_of_lt hq)⟩ (fun σ3 hm3 n3 s3 low3 => ?_)
  obtain ⟨a3, D3, g1, g2, g3, g4⟩ := hG2.mo rfl hm3 low3 n3
  have hgi : gi_P (24 * z + 784) 15135 z σ2.2.1 b L xs σ3 := by
    refine la_first a3 D3 σ3 ⟨?_, g3, ?_, ?_⟩ ⟨g1, 32, 32, 64, fun _ => 24, fun _ => 0, 0, 0, ?_, ?_, ?_, ?_, ?_, ?_, ?_, ?_⟩ g2
    · exact (g4 0 (by decide)).2.trans (a20.trans rfl)
    · exact (g4 98 (by decide)).2.trans ((hF2 98 (by decide)).2.trans rfl)
    · exact (g4 98 (by decide)).1.trans ((hF2 98 (by decide)).1.trans rfl)
    · rw [so_fr (a := a2) (a' := a3) (fun i hi => (g4 i (by omega)).2)]
      exact (g4 0 (by decide)).1.trans ho2
    · exact hs2.fr (fun i _ _ => g4 i (by omega))
    · exact hd2.fr (fun i _ _ => g4 i (by omega))
    · exact he2.fr (fun i _ _ => g4 i (by omega))
    · exact (g4 8 (by decide)).1.trans hC2
    · exact hc2.fr (fun i _ _ => g4 i (by omega))
    · show 24 * σ3.2.1 + 72 ≤ 24 * z + 784 + (32 + 32 + 64 + 0)
      omega
    · show σ3.2.2 + 2 ≤ 15135 + 2 * (32 + 32 + 64 + 0)
      have f2' : σ2.2.2 = 0 + 9 + 616 := f2
      omega
  refine ev_go 3 rfl ?_
  show ev_W 1000 mLa_law (18, [some (.ref b), some (.ref z), some (.ref σ2.2.1), some (.int (nI 0))], []) σ3 _
  exact la_loop hL (fun σ' h' => by
    have h1 := h'.room
    exact ⟨rfl, by omega, by omega⟩) L 0 σ3 (by omega) (by omega) hgi
