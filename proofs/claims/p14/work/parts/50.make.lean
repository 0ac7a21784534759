/-! THE MAKING of Schema, Draft, Events, Striping; the reference's roles behind its making. -/
section MK
variable {a : Nat → Nat} {D : Nat → Option ri_E} {σ : ri_S} {d : Nat} {Q : Option Value → ri_S → Prop}
theorem gw_putF' {M : ri_M} {F : ri_F} {pc np tg : Nat} {kv : Int32} {L : List (Option Value)} {r : List Value} (hG : gw_P a D σ) {i k cj j p : Nat} {ty : FieldType} {fs : List Value} {v : Value} (hd : D i = some (.inr (cj, fs))) (hp : a i = p) (hgo : ri_go 99 M F = (pc, L, v :: .ref p :: r)) (hf : ri_find pc M.2.2.2.2.2 = some (.putfield k, np, tg, kv)) (ht : rt_f M.1 k = some (cj, j, ty, 1)) (hi : M.2.1.name = "<init>") (hn : narrow ty v = v) (hfi : fits ty v = true) (hj : Nat.blt j fs.length = true) (kk : ∀ σ' : ri_S, gw_P a (va_up D i (some (.inr (cj, fs.set j v)))) σ' → σ'.2 = σ.2 → ev_W d M (np, L, r) σ' Q) : ev_W d M F σ Q := by
  subst hp
  exact gw_putF hG hd hgo hf ht hi hn hfi hj kk
theorem gw_put' {M : ri_M} {F : ri_F} {pc np tg : Nat} {kv : Int32} {L : List (Option Value)} {r : List Value} (hG : gw_P a D σ) {i k cj j p : Nat} {ty : FieldType} {fs : List Value} {v : Value} (hd : D i = some (.inr (cj, fs))) (hp : a i = p) (hgo : ri_go 99 M F = (pc, L, v :: .ref p :: r)) (hf : ri_find pc M.2.2.2.2.2 = some (.putfield k, np, tg, kv)) (ht : rt_f M.1 k = some (cj, j, ty, 0)) (hn : narrow ty v = v) (hfi : fits ty v = true) (hj : Nat.blt j fs.length = true) (kk : ∀ σ' : ri_S, gw_P a (va_up D i (some (.inr (cj, fs.set j v)))) σ' → σ'.2 = σ.2 → ev_W d M (np, L, r) σ' Q) : ev_W d M F σ Q := by
  subst hp
  exact gw_put hG hd hgo hf ht hn hfi hj kk
/-- a new row of ints, put into object o's field j: role i -/
theorem mk_i {M : ri_M} {F : ri_F} {pc np tg np2 tg2 q sl : Nat} {kv kv2 x : Int32} {L : List (Option Value)} {r : List Value} (hG : gw_P a D σ) (i : Nat) {o kf cj j N fl : Nat} {fs : List Value} (ho : D o = some (.inr (cj, fs))) (hio : o ≠ i) (h1 : σ.2.1 = q) (h2 : σ.2.2 = sl) (hgo : ri_go 99 M F = (pc, L, .int x :: .ref (a o) :: r)) (hf : ri_find pc M.2.2.2.2.2 = some (.newarray .int, np, tg, kv)) (hx : ¬ x < 0) (hN : x.toNatClampNeg = N) (hb : N ≤ 67108864) (hf2 : ri_find np M.2.2.2.2.2 = some (.putfield kf, np2, tg2, kv2)) (hft : rt_f M.1 kf = some (cj, j, .array .int, fl)) (hfl : fl = 0 ∨ fl = 1 ∧ M.2.1.name = "<init>") (hj : Nat.blt j fs.length = true) (kk : ∀ σ' : ri_S, gw_P (va_up a i q) (va_up (va_up D i (some (.inl (.int, N, .inl fun _ => 0)))) o (some (.inr (cj, fs.set j (.ref q))))) σ' → σ'.2.1 = q + 1 → σ'.2.2 = sl + N → ev_W d M (np2, L, r) σ' Q) : ev_W d M F σ Q := by
  subst h1
  subst h2
  refine g_newi hgo hf hx hN hb ?_
  have hG1 := hG.new i (.inl (.int, N, .inl fun _ => 0)) (σ.2.1 + 1) (σ.2.2 + N) (by omega)
  have ho1 : va_up D i (some (.inl (.int, N, .inl fun _ => 0))) o = some (.inr (cj, fs)) := (va_up_n hio).trans ho
  have ea : va_up a i σ.2.1 o = a o := va_up_n hio
  have hc := hG1.at ho1
  rw [ea] at hc
  have hG2 := hG1.set ho1 (.inr (cj, fs.set j (.ref σ.2.1)))
  rw [ea] at hG2
  rcases hfl with rfl | ⟨rfl, hnm⟩
  · exact ev_put hf2 hft hc rfl rfl hj (kk _ hG2 rfl rfl)
  · exact ev_putF hf2 hft hnm hc rfl rfl hj (kk _ hG2 rfl rfl)
theorem mk_i' {M : ri_M} {F : ri_F} {pc np tg np2 tg2 q sl p : Nat} {kv kv2 x : Int32} {L : List (Option Value)} {r : List Value} (hG : gw_P a D σ) (i : Nat) {o kf cj j N fl : Nat} {fs : List Value} (ho : D o = some (.inr (cj, fs))) (hio : o ≠ i) (hp : a o = p) (h1 : σ.2.1 = q) (h2 : σ.2.2 = sl) (hgo : ri_go 99 M F = (pc, L, .int x :: .ref p :: r)) (hf : ri_find pc M.2.2.2.2.2 = some (.newarray .int, np, tg, kv)) (hx : ¬ x < 0) (hN : x.toNatClampNeg = N) (hb : N ≤ 67108864) (hf2 : ri_find np M.2.2.2.2.2 = some (.putfield kf, np2, tg2, kv2)) (hft : rt_f M.1 kf = some (cj, j, .array .int, fl)) (hfl : fl = 0 ∨ fl = 1 ∧ M.2.1.name = "<init>") (hj : Nat.blt j fs.length = true) (kk : ∀ σ' : ri_S, gw_P (va_up a i q) (va_up (va_up D i (some (.inl (.int, N, .inl fun _ => 0)))) o (some (.inr (cj, fs.set j (.ref q))))) σ' → σ'.2.1 = q + 1 → σ'.2.2 = sl + N → ev_W d M (np2, L, r) σ' Q) : ev_W d M F σ Q := by
  subst hp
  exact mk_i hG i ho hio h1 h2 hgo hf hx hN hb hf2 hft hfl hj kk
theorem mk_l {M : ri_M} {F : ri_F} {pc np tg np2 tg2 q sl : Nat} {kv kv2 x : Int32} {L : List (Option Value)} {r : List Value} (hG : gw_P a D σ) (i : Nat) {o kf cj j N fl : Nat} {fs : List Value} (ho : D o = some (.inr (cj, fs))) (hio : o ≠ i) (h1 : σ.2.1 = q) (h2 : σ.2.2 = sl) (hgo : ri_go 99 M F = (pc, L, .int x :: .ref (a o) :: r)) (hf : ri_find pc M.2.2.2.2.2 = some (.newarray .long, np, tg, kv)) (hx : ¬ x < 0) (hN : x.toNatClampNeg = N) (hb : N ≤ 67108864) (hf2 : ri_find np M.2.2.2.2.2 = some (.putfield kf, np2, tg2, kv2)) (hft : rt_f M.1 kf = some (cj, j, .array .long, fl)) (hfl : fl = 0 ∨ fl = 1 ∧ M.2.1.name = "<init>") (hj : Nat.blt j fs.length = true) (kk : ∀ σ' : ri_S, gw_P (va_up a i q) (va_up (va_up D i (some (.inl (.long, N, .inr (.inl fun _ => 0))))) o (some (.inr (cj, fs.set j (.ref q))))) σ' → σ'.2.1 = q + 1 → σ'.2.2 = sl + N → ev_W d M (np2, L, r) σ' Q) : ev_W d M F σ Q := by
  subst h1
  subst h2
  refine g_newl hgo hf hx hN hb ?_
  have hG1 := hG.new i (.inl (.long, N, .inr (.inl fun _ => 0))) (σ.2.1 + 1) (σ.2.2 + N) (by omega)
  have ho1 : va_up D i (some (.inl (.long, N, .inr (.inl fun _ => 0)))) o = some (.inr (cj, fs)) := (va_up_n hio).trans ho
  have ea : va_up a i σ.2.1 o = a o := va_up_n hio
  have hc := hG1.at ho1
  rw [ea] at hc
  have hG2 := hG1.set ho1 (.inr (cj, fs.set j (.ref σ.2.1)))
  rw [ea] at hG2
  rcases hfl with rfl | ⟨rfl, hnm⟩
  · exact ev_put hf2 hft hc rfl rfl hj (kk _ hG2 rfl rfl)
  · exact ev_putF hf2 hft hnm hc rfl rfl hj (kk _ hG2 rfl rfl)
set_option maxRecDepth 100000 in
/-- Schema() -/
theorem mk_schema {q sl : Nat} (hG : gw_P a D σ) (h0 : D 60 = some (.inr (3, [.null, .null, .null, .null, .null, .null, .null, .null, .int 0, .int 0, .int 0]))) (ha : a 60 = q) (h1 : σ.2.1 = q + 1) (h2 : σ.2.2 = sl) (kk : ∀ (a' : Nat → Nat) (D' : Nat → Option ri_E) (σ' : ri_S), gw_P a' D' σ' → sh_P a' D' (fun _ _ => 0) (fun _ => 0) (fun _ => 0) → gw_F 60 69 a D a' D' → a' 60 = a 60 → σ'.2.1 = q + 9 → σ'.2.2 = sl + 384 → Q none σ') : ev_W (d + 1) mSc_init (0, [some (.ref (a 60))], []) σ Q := by
  refine g_lf rfl rfl rfl rfl rfl ?_
  refine mk_i hG 61 h0 (by decide) h1 h2 rfl rfl (by decide) (N := 48) (by decide) (by decide) rfl rfl (Or.inr ⟨rfl, rfl⟩) rfl (fun σ1 hG1 e1 f1 => ?_)
  refine mk_i hG1 62 (o := 60) rfl (by decide) e1 f1 rfl rfl (by decide) (N := 48) (by decide) (by decide) rfl rfl (Or.inr ⟨rfl, rfl⟩) rfl (fun σ2 hG2 e2 f2 => ?_)
  refine mk_i hG2 63 (o := 60) rfl (by decide) e2 f2 rfl rfl (by decide) (N := 48) (by decide) (by decide) rfl rfl (Or.inr ⟨rfl, rfl⟩) rfl (fun σ3 hG3 e3 f3 => ?_)
  refine mk_i hG3 64 (o := 60) rfl (by decide) e3 f3 rfl rfl (by decide) (N := 48) (by decide) (by decide) rfl rfl (Or.inr ⟨rfl, rfl⟩) rfl (fun σ4 hG4 e4 f4 => ?_)
  refine mk_i hG4 65 (o := 60) rfl (by decide) e4 f4 rfl rfl (by decide) (N := 48) (by decide) (by decide) rfl rfl (Or.inr ⟨rfl, rfl⟩) rfl (fun σ5 hG5 e5 f5 => ?_)
  refine mk_i hG5 66 (o := 60) rfl (by decide) e5 f5 rfl rfl (by decide) (N := 48) (by decide) (by decide) rfl rfl (Or.inr ⟨rfl, rfl⟩) rfl (fun σ6 hG6 e6 f6 => ?_)
  refine mk_i hG6 67 (o := 60) rfl (by decide) e6 f6 rfl rfl (by decide) (N := 48) (by decide) (by decide) rfl rfl (Or.inr ⟨rfl, rfl⟩) rfl (fun σ7 hG7 e7 f7 => ?_)
  refine mk_l hG7 68 (o := 60) rfl (by decide) e7 f7 rfl rfl (by decide) (N := 48) (by decide) (by decide) rfl rfl (Or.inr ⟨rfl, rfl⟩) rfl (fun σ8 hG8 e8 f8 => ?_)
  refine g_rt rfl rfl rfl (kk _ _ σ8 hG8 ⟨fun k hk => ?_, ?_, fun k hk => ?_, rfl⟩ (fun i hi => ⟨?_, ?_⟩) rfl (by omega) (by omega))
  · match k, hk with
    | 0, _ => rfl
    | 1, _ => exact (show q + 1 = a 60 + 1 by omega)
    | 2, _ => exact (show q + 1 + 1 = a 60 + 2 by omega)
    | 3, _ => exact (show q + 1 + 1 + 1 = a 60 + 3 by omega)
    | 4, _ => exact (show q + 1 + 1 + 1 + 1 = a 60 + 4 by omega)
    | 5, _ => exact (show q + 1 + 1 + 1 + 1 + 1 = a 60 + 5 by omega)
    | 6, _ => exact (show q + 1 + 1 + 1 + 1 + 1 + 1 = a 60 + 6 by omega)
    | 7, _ => exact (show q + 1 + 1 + 1 + 1 + 1 + 1 + 1 = a 60 + 7 by omega)
    | 8, _ => exact (show q + 1 + 1 + 1 + 1 + 1 + 1 + 1 + 1 = a 60 + 8 by omega)
  · show some (Sum.inr (3, [Value.ref (q + 1), Value.ref (q + 1 + 1), Value.ref (q + 1 + 1 + 1), Value.ref (q + 1 + 1 + 1 + 1), Value.ref (q + 1 + 1 + 1 + 1 + 1), Value.ref (q + 1 + 1 + 1 + 1 + 1 + 1), Value.ref (q + 1 + 1 + 1 + 1 + 1 + 1 + 1), Value.ref (q + 1 + 1 + 1 + 1 + 1 + 1 + 1 + 1), .int 0, .int 0, .int 0])) = some (Sum.inr (3, sc_fs (a 60) _))
    rw [ha]
    rfl
  · match k, hk with
    | 0, _ => rfl
    | 1, _ => rfl
    | 2, _ => rfl
    | 3, _ => rfl
    | 4, _ => rfl
    | 5, _ => rfl
    | 6, _ => rfl
  · exact (va_up_n (by omega)).trans <| (va_up_n (by omega)).trans <| (va_up_n (by omega)).trans <| (va_up_n (by omega)).trans <| (va_up_n (by omega)).trans <| (va_up_n (by omega)).trans <| (va_up_n (by omega)).trans <| (va_up_n (by omega)).trans <| (va_up_n (by omega)).trans <| (va_up_n (by omega)).trans <| (va_up_n (by omega)).trans <| (va_up_n (by omega)).trans <| (va_up_n (by omega)).trans <| (va_up_n (by omega)).trans <| (va_up_n (by omega)).trans <| va_up_n (by omega)
  · exact (va_up_n (by omega)).trans <| (va_up_n (by omega)).trans <| (va_up_n (by omega)).trans <| (va_up_n (by omega)).trans <| (va_up_n (by omega)).trans <| (va_up_n (by omega)).trans <| (va_up_n (by omega)).trans <| va_up_n (by omega)
set_option maxRecDepth 100000 in
/-- Draft() -/
theorem mk_draft {q sl : Nat} (hG : gw_P a D σ) (h0 : D 1 = some (.inr (1, [.null, .null, .null, .null, .int 0, .int 0, .int 0]))) (h1 : σ.2.1 = q) (h2 : σ.2.2 = sl) (kk : ∀ (a' : Nat → Nat) (D' : Nat → Option ri_E) (σ' : ri_S), gw_P a' D' σ' → dr_P a' D' (fun _ => 0) (fun _ => 0) (fun _ => 0) (fun _ => 0) 32 32 0 0 0 → gw_F 1 6 a D a' D' → a' 1 = a 1 → σ'.2.1 = q + 4 → σ'.2.2 = sl + 98 → Q none σ') : ev_W (d + 1) mDr_init (0, [some (.ref (a 1))], []) σ Q := by
  refine g_lf rfl rfl rfl rfl rfl ?_
  refine mk_i hG 2 h0 (by decide) h1 h2 rfl rfl (by decide) (N := 17) (by decide) (by decide) rfl rfl (Or.inr ⟨rfl, rfl⟩) rfl (fun σ1 hG1 e1 f1 => ?_)
  refine mk_i hG1 3 (o := 1) rfl (by decide) e1 f1 rfl rfl (by decide) (N := 17) (by decide) (by decide) rfl rfl (Or.inr ⟨rfl, rfl⟩) rfl (fun σ2 hG2 e2 f2 => ?_)
  refine mk_i hG2 4 (o := 1) rfl (by decide) e2 f2 rfl rfl (by decide) (N := 32) (by decide) (by decide) rfl rfl (Or.inl rfl) rfl (fun σ3 hG3 e3 f3 => ?_)
  refine mk_i hG3 5 (o := 1) rfl (by decide) e3 f3 rfl rfl (by decide) (N := 32) (by decide) (by decide) rfl rfl (Or.inl rfl) rfl (fun σ4 hG4 e4 f4 => ?_)
  refine g_rt rfl rfl rfl (kk _ _ σ4 hG4 ⟨rfl, rfl, rfl, rfl, rfl, by decide, by decide, by decide, by decide, by decide, by decide, by decide, by decide, Or.inl rfl⟩ (fun i hi => ⟨?_, ?_⟩) rfl (by omega) (by omega))
  · exact (va_up_n (by omega)).trans <| (va_up_n (by omega)).trans <| (va_up_n (by omega)).trans <| (va_up_n (by omega)).trans <| (va_up_n (by omega)).trans <| (va_up_n (by omega)).trans <| (va_up_n (by omega)).trans <| va_up_n (by omega)
  · exact (va_up_n (by omega)).trans <| (va_up_n (by omega)).trans <| (va_up_n (by omega)).trans <| va_up_n (by omega)
set_option maxRecDepth 100000 in
/-- Events() -/
theorem mk_events {q sl : Nat} (hG : gw_P a D σ) (h0 : D 6 = some (.inr (2, [.null, .int 0]))) (h1 : σ.2.1 = q) (h2 : σ.2.2 = sl) (kk : ∀ (a' : Nat → Nat) (D' : Nat → Option ri_E) (σ' : ri_S), gw_P a' D' σ' → el_P a' D' [] 64 → gw_F 6 8 a D a' D' → a' 6 = a 6 → σ'.2.1 = q + 1 → σ'.2.2 = sl + 64 → Q none σ') : ev_W (d + 1) mEv_init (0, [some (.ref (a 6))], []) σ Q := by
  refine g_lf rfl rfl rfl rfl rfl ?_
  refine mk_i hG 7 h0 (by decide) h1 h2 rfl rfl (by decide) (N := 64) (by decide) (by decide) rfl rfl (Or.inl rfl) rfl (fun σ1 hG1 e1 f1 => ?_)
  refine g_rt rfl rfl rfl (kk _ _ σ1 hG1 ⟨_, ⟨rfl, rfl, by decide⟩, fun q e z => by cases z⟩ (fun i hi => ⟨?_, ?_⟩) rfl e1 f1)
  · exact (va_up_n (by omega)).trans <| va_up_n (by omega)
  · exact va_up_n (by omega)
/-- a new object: role i -/
theorem mk_new {M : ri_M} {F : ri_F} {pc np tg : Nat} {kv : Int32} {L : List (Option Value)} {r : List Value} (hG : gw_P a D σ) (i : Nat) {k cj q sl : Nat} {fs : List Value} (h1 : σ.2.1 = q) (h2 : σ.2.2 = sl) (hgo : ri_go 99 M F = (pc, L, r)) (hf : ri_find pc M.2.2.2.2.2 = some (.new k, np, tg, kv)) (ht : rt_n M.1 k = some (cj, fs)) (kk : ∀ σ' : ri_S, gw_P (va_up a i q) (va_up D i (some (.inr (cj, fs)))) σ' → σ'.2.1 = q + 1 → σ'.2.2 = sl + fs.length → ev_W d M (np, L, .ref q :: r) σ' Q) : ev_W d M F σ Q := by
  subst h1
  subst h2
  exact g_new hgo hf ht (kk _ (hG.new i _ _ _ (by omega)) rfl rfl)
set_option maxRecDepth 100000 in
/-- Striping() -/
theorem mk_striping {q sl : Nat} (hG : gw_P a D σ) (h0 : D 0 = some (.inr (4, [.null, .null, .null, .null, .null, .int 0, .int 0, .int 0, .long 0]))) (h1 : σ.2.1 = q) (h2 : σ.2.2 = sl) (kk : ∀ (a' : Nat → Nat) (D' : Nat → Option ri_E) (σ' : ri_S), gw_P a' D' σ' → D' 0 = some (.inr (4, so_fs a' 0 0 0 0)) → sh_P a' D' (fun _ _ => 0) (fun _ => 0) (fun _ => 0) → dr_P a' D' (fun _ => 0) (fun _ => 0) (fun _ => 0) (fun _ => 0) 32 32 0 0 0 → el_P a' D' [] 64 → D' 8 = some (.inl (.int, 48, .inl fun _ => 0)) → co_P a' D' 0 (fun _ => []) (fun _ => 24) → (∀ i, 69 ≤ i → D' i = D i ∧ a' i = a i) → a' 0 = a 0 → σ'.2.1 = q + 20 → σ'.2.2 = sl + 616 → Q none σ') : ev_W (d + 2) mSt_init (0, [some (.ref (a 0))], []) σ Q := by
  refine g_lf rfl rfl rfl rfl rfl ?_
  refine mk_new hG 60 h1 h2 rfl rfl rfl (fun σ1 hG1 e1 f1 => ?_)
  refine g_clC rfl rfl rfl (Or.inr rfl) rfl rfl rfl rfl ?_
  refine mk_schema (q := q) hG1 rfl rfl e1 f1 (fun a2 D2 σ2 hG2 hs2 hF2 ha2 e2 f2 => ?_)
  have h02 : D2 0 = some (.inr (4, [.null, .null, .null, .null, .null, .int 0, .int 0, .int 0, .long 0])) := (hF2 0 (by decide)).1.trans h0
  have a20 : a2 0 = a 0 := (hF2 0 (by decide)).2
  refine gw_putF' hG2 h02 a20 rfl rfl rfl rfl rfl rfl rfl (fun σ3 hG3 e3 => ?_)
  refine mk_new hG3 1 ((congrArg Prod.fst e3).trans e2) ((congrArg Prod.snd e3).trans f2) rfl rfl rfl (fun σ4 hG4 e4 f4 => ?_)
  refine g_clC rfl rfl rfl (Or.inr rfl) rfl rfl rfl rfl ?_
  refine mk_draft hG4 rfl e4 f4 (fun a5 D5 σ5 hG5 hd5 hF5 ha5 e5 f5 => ?_)
  have h05 := (hF5 0 (by decide)).1
  have a50 : a5 0 = a 0 := (hF5 0 (by decide)).2.trans a20
  refine gw_putF' hG5 h05 a50 rfl rfl rfl rfl rfl rfl rfl (fun σ6 hG6 e6 => ?_)
  refine mk_new hG6 6 ((congrArg Prod.fst e6).trans e5) ((congrArg Prod.snd e6).trans f5) rfl rfl rfl (fun σ7 hG7 e7 f7 => ?_)
  refine g_clC rfl rfl rfl (Or.inr rfl) rfl rfl rfl rfl ?_
  refine mk_events hG7 rfl e7 f7 (fun a8 D8 σ8 hG8 he8 hF8 ha8 e8 f8 => ?_)
  have h08 := (hF8 0 (by decide)).1
  have a80 : a8 0 = a 0 := (hF8 0 (by decide)).2.trans a50
  refine gw_putF' hG8 h08 a80 rfl rfl rfl rfl rfl rfl rfl (fun σ9 hG9 e9 => ?_)
  refine mk_i' hG9 8 (o := 0) rfl (by decide) a80 ((congrArg Prod.fst e9).trans e8) ((congrArg Prod.snd e9).trans f8) rfl rfl (by decide) (N := 48) (by decide) (by decide) rfl rfl (Or.inr ⟨rfl, rfl⟩) rfl (fun σ10 hG10 e10 f10 => ?_)
  refine mk_new hG10 9 e10 f10 rfl rfl rfl (fun σ11 hG11 e11 f11 => ?_)
  refine g_clC rfl rfl rfl (Or.inl rfl) rfl rfl rfl rfl ?_
  refine co_init (n := 0) hG11 rfl rfl (by decide) (fun a12 D12 σ12 hG12 hc12 hD12 ha12 e12 => ?_)
  have h012 := hD12 0 (by decide)
  have a120 : a12 0 = a 0 := (ha12 0 (by decide)).trans a80
  refine gw_put' hG12 h012 a120 rfl rfl rfl rfl rfl rfl (fun σ13 hG13 e13 => ?_)
  have fr : ∀ i, i ≠ 0 → i ≠ 1 → i ≠ 6 → i ≠ 8 → (i < 9 ∨ 60 ≤ i) → True := fun _ _ _ _ _ _ => trivial
  have b60 : a12 60 = q := (ha12 60 (by decide)).trans ((hF8 60 (by decide)).2.trans ((hF5 60 (by decide)).2.trans ha2))
  have b1 : a12 1 = q + 9 := (ha12 1 (by decide)).trans ((hF8 1 (by decide)).2.trans ha5)
  have b6 : a12 6 = q + 9 + 1 + 4 := (ha12 6 (by decide)).trans ha8
  have b8 : a12 8 = q + 9 + 1 + 4 + 1 + 1 := ha12 8 (by decide)
  have b9 : a12 9 = q + 9 + 1 + 4 + 1 + 1 + 1 := ha12 9 (by decide)
  refine g_rt rfl rfl rfl (kk a12 _ σ13 hG13 ?_ ?_ ?_ ?_ ?_ ?_ (fun i hi => ⟨?_, ?_⟩) a120 ?_ ?_)
  · unfold so_fs
    rw [b60, b1, b6, b8, b9]
    rfl
  · refine hs2.fr (fun i g1 g2 => ⟨?_, ?_⟩)
    · exact (va_up_n (by omega)).trans ((hD12 i (by omega)).trans ((va_up_n (by omega)).trans ((va_up_n (by omega)).trans ((va_up_n (by omega)).trans ((va_up_n (by omega)).trans ((hF8 i (by omega)).1.trans ((va_up_n (by omega)).trans ((va_up_n (by omega)).trans ((hF5 i (by omega)).1.trans ((va_up_n (by omega)).trans (va_up_n (by omega))))))))))))
    · exact (ha12 i (by omega)).trans ((va_up_n (by omega)).trans ((va_up_n (by omega)).trans ((hF8 i (by omega)).2.trans ((va_up_n (by omega)).trans ((hF5 i (by omega)).2.trans (va_up_n (by omega)))))))
  · refine hd5.fr (fun i g1 g2 => ⟨?_, ?_⟩)
    · exact (va_up_n (by omega)).trans ((hD12 i (by omega)).trans ((va_up_n (by omega)).trans ((va_up_n (by omega)).trans ((va_up_n (by omega)).trans ((va_up_n (by omega)).trans ((hF8 i (by omega)).1.trans ((va_up_n (by omega)).trans (va_up_n (by omega)))))))))
    · exact (ha12 i (by omega)).trans ((va_up_n (by omega)).trans ((va_up_n (by omega)).trans ((hF8 i (by omega)).2.trans (va_up_n (by omega)))))
  · refine he8.fr (fun i g1 g2 => ⟨?_, ?_⟩)
    · exact (va_up_n (by omega)).trans ((hD12 i (by omega)).trans ((va_up_n (by omega)).trans ((va_up_n (by omega)).trans ((va_up_n (by omega)).trans (va_up_n (by omega))))))
    · exact (ha12 i (by omega)).trans ((va_up_n (by omega)).trans (va_up_n (by omega)))
  · exact (va_up_n (by decide)).trans ((hD12 8 (by decide)).trans rfl)
  · exact hc12.fr (fun i g1 g2 => ⟨va_up_n (by omega), rfl⟩)
  · exact (va_up_n (by omega)).trans ((hD12 i (by omega)).trans ((va_up_n (by omega)).trans ((va_up_n (by omega)).trans ((va_up_n (by omega)).trans ((va_up_n (by omega)).trans ((hF8 i (by omega)).1.trans ((va_up_n (by omega)).trans ((va_up_n (by omega)).trans ((hF5 i (by omega)).1.trans ((va_up_n (by omega)).trans ((va_up_n (by omega)).trans ((hF2 i (by omega)).1.trans (va_up_n (by omega))))))))))))))
  · exact (ha12 i (by omega)).trans ((va_up_n (by omega)).trans ((va_up_n (by omega)).trans ((hF8 i (by omega)).2.trans ((va_up_n (by omega)).trans ((hF5 i (by omega)).2.trans ((va_up_n (by omega)).trans ((hF2 i (by omega)).2.trans (va_up_n (by omega)))))))))
  · rw [e13, e12, e11]
  · rw [e13, e12, f11]
    show sl + 11 + 384 + 7 + 98 + 2 + 64 + 48 + 2 + 0 + 0 + 0 * 24 = sl + 616
    omega
/-- the reference's roles -/
theorem gw_P.mo {o : Nat} {A : Nat → Nat → Int32} {I : Nat → Int32} {σ' : ri_S} (h : gw_P a D σ) (ho : σ.2.1 = o) (hm : mo_P o A I σ'.1) (hl : ∀ q, q < o → σ'.1 q = σ.1 q) (hn : σ'.2.1 = o + 14) : ∃ (a' : Nat → Nat) (D' : Nat → Option ri_E), gw_P a' D' σ' ∧ mh_P a' D' A I ∧ a' 70 = o ∧ ∀ i, (i < 70 ∨ 84 ≤ i) → D' i = D i ∧ a' i = a i := by
  subst ho
  have lt : ∀ q, ¬ (70 ≤ q ∧ q < 84) → (if q = 70 then some (.inr (5, mo_fs σ.2.1 I)) else if 71 ≤ q ∧ q < 84 then some (.inl (mo_ty (q - 71), mo_len (q - 71), .inl (A (q - 71)))) else D q) ≠ none → D q ≠ none ∧ a q < σ.2.1 := fun q z hq => by
    rw [if_neg (by omega), if_neg (by omega)] at hq
    refine ⟨hq, ?_⟩
    cases hx : D q with
    | none => exact absurd hx hq
    | some x => exact h.lt hx
  refine ⟨fun i => if 70 ≤ i ∧ i < 84 then σ.2.1 + (i - 70) else a i, fun i => if i = 70 then some (.inr (5, mo_fs σ.2.1 I)) else if 71 ≤ i ∧ i < 84 then some (.inl (mo_ty (i - 71), mo_len (i - 71), .inl (A (i - 71)))) else D i, ⟨fun i j hi hj hij => ?_, fun i e he => ?_⟩, ⟨fun k hk => ?_, ?_, fun k hk => ?_⟩, rfl, fun i hi => ⟨(if_neg (by omega)).trans (if_neg (by omega)), if_neg (by omega)⟩⟩
  · dsimp only at hij
    by_cases y1 : 70 ≤ i ∧ i < 84
    · rw [if_pos y1] at hij
      by_cases y2 : 70 ≤ j ∧ j < 84
      · rw [if_pos y2] at hij
        omega
      · rw [if_neg y2] at hij
        have := (lt j y2 hj).2
        omega
    · rw [if_neg y1] at hij
      by_cases y2 : 70 ≤ j ∧ j < 84
      · rw [if_pos y2] at hij
        have := (lt i y1 hi).2
        omega
      · rw [if_neg y2] at hij
        exact h.1 i j (lt i y1 hi).1 (lt j y2 hj).1 hij
  · dsimp only at he ⊢
    by_cases y0 : i = 70
    · rw [if_pos y0] at he
      rw [if_pos (by omega), show σ.2.1 + (i - 70) = σ.2.1 by omega, hn, ← he]
      exact ⟨by omega, hm.1⟩
    rw [if_neg y0] at he
    by_cases y1 : 71 ≤ i ∧ i < 84
    · rw [if_pos y1] at he
      rw [if_pos (by omega), show σ.2.1 + (i - 70) = σ.2.1 + 1 + (i - 71) by omega, hn, ← he]
      exact ⟨by omega, hm.2 (i - 71) (by omega)⟩
    · rw [if_neg y1] at he
      have := h.lt he
      rw [if_neg (by omega), hn, hl _ this]
      exact ⟨by omega, h.at he⟩
  · show (if 70 ≤ 70 + k ∧ 70 + k < 84 then σ.2.1 + (70 + k - 70) else a (70 + k)) = σ.2.1 + 0 + k
    rw [if_pos (by omega)]
    omega
  · rfl
  · show (if 71 + k = 70 then _ else if 71 ≤ 71 + k ∧ 71 + k < 84 then _ else _) = _
    rw [if_neg (by omega), if_pos (by omega), Nat.add_sub_cancel_left]
end MK
