/-! Steps with cells, by what the cells are. -/
section EVH
variable {d : Nat} {M : ri_M} {pc np tg : Nat} {kv : Int32} {L : List (Option Value)} {r : List Value} {σ : ri_S} {Q : Option Value → ri_S → Prop}
theorem ev_get {k cj j fl a : Nat} {ty : FieldType} {fs : List Value} {v : Value} (hf : ri_find pc M.2.2.2.2.2 = some (.getfield k, np, tg, kv)) (ht : rt_f M.1 k = some (cj, j, ty, fl)) (ha : σ.1 a = some (.inr (cj, fs))) (hv : fs[j]? = some v) (kk : ev_W d M (np, L, v :: r) σ Q) : ev_W d M (pc, L, .ref a :: r) σ Q := by
  refine ev_hx hf rfl rfl rfl rfl ?_ kk
  show ri_hx M (.getfield k) _ _ = _
  simp only [ri_hx, ht, ha, hv, if_true]
theorem ev_put {k cj j a : Nat} {ty : FieldType} {fs : List Value} {v : Value} (hf : ri_find pc M.2.2.2.2.2 = some (.putfield k, np, tg, kv)) (ht : rt_f M.1 k = some (cj, j, ty, 0)) (ha : σ.1 a = some (.inr (cj, fs))) (hn : narrow ty v = v) (hfi : fits ty v = true) (hj : Nat.blt j fs.length = true) (kk : ev_W d M (np, L, r) (ri_up σ.1 a (.inr (cj, fs.set j v)), σ.2) Q) : ev_W d M (pc, L, v :: .ref a :: r) σ Q := by
  refine ev_hx hf rfl rfl rfl rfl ?_ kk
  show ri_hx M (.putfield k) _ _ = _
  simp only [ri_hx, ht, ha]
  rw [if_pos ⟨trivial, hn, hfi, Nat.le_of_ble_eq_true hj, Or.inl trivial⟩]
theorem ev_putF {k cj j a : Nat} {ty : FieldType} {fs : List Value} {v : Value} (hf : ri_find pc M.2.2.2.2.2 = some (.putfield k, np, tg, kv)) (ht : rt_f M.1 k = some (cj, j, ty, 1)) (hi : M.2.1.name = "<init>") (ha : σ.1 a = some (.inr (cj, fs))) (hn : narrow ty v = v) (hfi : fits ty v = true) (hj : Nat.blt j fs.length = true) (kk : ev_W d M (np, L, r) (ri_up σ.1 a (.inr (cj, fs.set j v)), σ.2) Q) : ev_W d M (pc, L, v :: .ref a :: r) σ Q := by
  refine ev_hx hf rfl rfl rfl rfl ?_ kk
  show ri_hx M (.putfield k) _ _ = _
  simp only [ri_hx, ht, ha]
  rw [if_pos ⟨trivial, hn, hfi, Nat.le_of_ble_eq_true hj, Or.inr ⟨trivial, hi⟩⟩]
theorem ev_iald {a n : Nat} {j : Int32} {ea : ri_E} {f : Nat → Int32} (hf : ri_find pc M.2.2.2.2.2 = some (.iaload, np, tg, kv)) (ha : σ.1 a = some ea) (he : ri_ai ea = some (n, f)) (hj : ¬ (j < 0 ∨ n ≤ j.toNatClampNeg)) (kk : ev_W d M (np, L, .int (f j.toNatClampNeg) :: r) σ Q) : ev_W d M (pc, L, .int j :: .ref a :: r) σ Q := by
  refine ev_hx hf rfl rfl rfl rfl ?_ kk
  show ri_hx M .iaload _ _ = _
  simp only [ri_hx, ha, he]
  rw [if_neg hj]
theorem ev_lald {a n : Nat} {j : Int32} {f : Nat → Int64} (hf : ri_find pc M.2.2.2.2.2 = some (.laload, np, tg, kv)) (ha : σ.1 a = some (.inl (.long, n, .inr (.inl f)))) (hj : ¬ (j < 0 ∨ n ≤ j.toNatClampNeg)) (kk : ev_W d M (np, L, .long (f j.toNatClampNeg) :: r) σ Q) : ev_W d M (pc, L, .int j :: .ref a :: r) σ Q := by
  refine ev_hx hf rfl rfl rfl rfl ?_ kk
  show ri_hx M .laload _ _ = _
  simp only [ri_hx, ha]
  rw [if_neg hj]
theorem ev_aald {a n : Nat} {j : Int32} {f : Nat → Option Nat} (hf : ri_find pc M.2.2.2.2.2 = some (.aaload, np, tg, kv)) (ha : σ.1 a = some (.inl (.array .int, n, .inr (.inr (.inr (.inr f)))))) (hj : ¬ (j < 0 ∨ n ≤ j.toNatClampNeg)) (kk : ev_W d M (np, L, va_rf (f j.toNatClampNeg) :: r) σ Q) : ev_W d M (pc, L, .int j :: .ref a :: r) σ Q := by
  refine ev_hx hf rfl rfl rfl rfl ?_ kk
  show ri_hx M .aaload _ _ = _
  simp only [ri_hx, ha]
  rw [if_neg hj]
theorem ev_iast {a n : Nat} {j x : Int32} {f : Nat → Int32} (hf : ri_find pc M.2.2.2.2.2 = some (.iastore, np, tg, kv)) (ha : σ.1 a = some (.inl (.int, n, .inl f))) (hj : ¬ (j < 0 ∨ n ≤ j.toNatClampNeg)) (kk : ev_W d M (np, L, r) (ri_up σ.1 a (.inl (.int, n, .inl (upd f j.toNatClampNeg x))), σ.2) Q) : ev_W d M (pc, L, .int x :: .int j :: .ref a :: r) σ Q := by
  refine ev_hx hf rfl rfl rfl rfl ?_ kk
  show ri_hx M .iastore _ _ = _
  simp only [ri_hx, ha]
  rw [if_neg hj]
theorem ev_last {a n : Nat} {j : Int32} {x : Int64} {f : Nat → Int64} (hf : ri_find pc M.2.2.2.2.2 = some (.lastore, np, tg, kv)) (ha : σ.1 a = some (.inl (.long, n, .inr (.inl f)))) (hj : ¬ (j < 0 ∨ n ≤ j.toNatClampNeg)) (kk : ev_W d M (np, L, r) (ri_up σ.1 a (.inl (.long, n, .inr (.inl (vp_updL f j.toNatClampNeg x)))), σ.2) Q) : ev_W d M (pc, L, .long x :: .int j :: .ref a :: r) σ Q := by
  refine ev_hx hf rfl rfl rfl rfl ?_ kk
  show ri_hx M .lastore _ _ = _
  simp only [ri_hx, ha]
  rw [if_neg hj]
theorem ev_alen {a n : Nat} {ea : ri_E} {f : Nat → Int32} (hf : ri_find pc M.2.2.2.2.2 = some (.arraylength, np, tg, kv)) (ha : σ.1 a = some ea) (he : ri_ai ea = some (n, f)) (kk : ev_W d M (np, L, .int (nI n) :: r) σ Q) : ev_W d M (pc, L, .ref a :: r) σ Q := by
  refine ev_hx hf rfl rfl rfl rfl ?_ kk
  show ri_hx M .arraylength _ _ = _
  simp only [ri_hx, ha, he]
theorem ev_newi {n : Int32} {N : Nat} (hf : ri_find pc M.2.2.2.2.2 = some (.newarray .int, np, tg, kv)) (hn : ¬ n < 0) (hN : n.toNatClampNeg = N) (hb : N ≤ 67108864) (kk : ev_W d M (np, L, .ref σ.2.1 :: r) (ri_up σ.1 σ.2.1 (.inl (.int, N, .inl fun _ => 0)), σ.2.1 + 1, σ.2.2 + N) Q) : ev_W d M (pc, L, .int n :: r) σ Q := by
  subst hN
  refine ev_hx hf rfl rfl rfl rfl ?_ kk
  show ri_hx M (.newarray .int) _ _ = _
  simp only [ri_hx]
  rw [if_neg (by rintro (q | q); exact hn q; omega)]
theorem ev_newl {n : Int32} {N : Nat} (hf : ri_find pc M.2.2.2.2.2 = some (.newarray .long, np, tg, kv)) (hn : ¬ n < 0) (hN : n.toNatClampNeg = N) (hb : N ≤ 67108864) (kk : ev_W d M (np, L, .ref σ.2.1 :: r) (ri_up σ.1 σ.2.1 (.inl (.long, N, .inr (.inl fun _ => 0))), σ.2.1 + 1, σ.2.2 + N) Q) : ev_W d M (pc, L, .int n :: r) σ Q := by
  subst hN
  refine ev_hx hf rfl rfl rfl rfl ?_ kk
  show ri_hx M (.newarray .long) _ _ = _
  simp only [ri_hx]
  rw [if_neg (by rintro (q | q); exact hn q; omega)]
theorem ev_new {k cj : Nat} {fs : List Value} (hf : ri_find pc M.2.2.2.2.2 = some (.new k, np, tg, kv)) (ht : rt_n M.1 k = some (cj, fs)) (kk : ev_W d M (np, L, .ref σ.2.1 :: r) (ri_up σ.1 σ.2.1 (.inr (cj, fs)), σ.2.1 + 1, σ.2.2 + fs.length) Q) : ev_W d M (pc, L, r) σ Q := by
  refine ev_hx hf rfl rfl rfl rfl ?_ kk
  show ri_hx M (.new k) _ _ = _
  simp only [ri_hx, ht]
end EVH
/-! Many steps at once. -/
/-- instructions that go straight on without cells -/
def ri_str : Instr → Bool
  | .iconst _ | .bipush _ | .sipush _ | .lconst _ | .ldc _ | .ldc2_w _ | .aconst_null => true
  | .iload _ | .iload_n _ | .lload _ | .lload_n _ | .aload _ | .aload_n _ => true
  | .istore _ | .istore_n _ | .lstore _ | .lstore_n _ | .astore _ | .astore_n _ => true
  | .iinc _ _ | .iadd | .isub | .imul | .iand | .ior | .ishl | .ishr | .iushr | .land | .lor | .lshl | .lushr | .lcmp | .i2l | .l2i => true
  | .dup | .pop | .dup_x1 | .dup_x2 | .dup2 | .goto _ => true
  | _ => false
theorem ri_str_no {i : Instr} (h : ri_str i = true) (M : ri_M) (st : List Value) (σ : ri_S) : ri_rt M i st = none ∧ ri_cl M i st σ = none ∧ ri_lf M i st σ = none := by
  cases i <;> first | exact ⟨rfl, rfl, rfl⟩ | (cases h; done)
def ri_go : Nat → ri_M → ri_F → ri_F
  | 0, _, F => F
  | n + 1, M, F => match ri_find F.1 M.2.2.2.2.2 with
    | some x => match ri_str x.1 with
      | true => match ri_px M.1 x F.2.1 F.2.2 with
        | some F' => ri_go n M F'
        | none => F
      | false => F
    | none => F
theorem ev_go {d : Nat} {M : ri_M} {σ : ri_S} {Q : Option Value → ri_S → Prop} : ∀ (n : Nat) {F F' : ri_F}, ri_go n M F = F' → ev_W d M F' σ Q → ev_W d M F σ Q := by
  intro n
  induction n with
  | zero => intro F F' h k; rw [show F = F' from h]; exact k
  | succ n ih =>
    intro F F' h k
    unfold ri_go at h
    split at h
    · rename_i x hx
      split at h
      · rename_i hs
        split at h
        · rename_i F1 h1
          obtain ⟨g1, g2, g3⟩ := ri_str_no hs M F.2.2 σ
          exact ev_px hx g1 g2 g3 h1 (ih h k)
        · rw [h]; exact k
      · rw [h]; exact k
    · rw [h]; exact k
section EVC
variable {d : Nat} {M : ri_M} {pc np tg : Nat} {kv : Int32} {L : List (Option Value)} {st r : List Value} {σ : ri_S} {Q : Option Value → ri_S → Prop}
/-- a virtual call -/
theorem ev_clV {M' : ri_M} {k n b : Nat} {fs : List Value} (hf : ri_find pc M.2.2.2.2.2 = some (.invokevirtual k, np, tg, kv)) (ht : rt_c M.1 k = some (0, M', n)) (hd : st.drop n = .ref b :: r) (hb : σ.1 b = some (.inr (M'.1, fs))) (h1 : Nat.beq (st.take n).length n = true) (h2 : Nat.ble (r.map fun v => v.category).sum 8 = true) (h3 : Nat.ble (ri_ent (.ref b :: (st.take n).reverse)).length M'.2.2.2.1 = true)
    (kk : ev_W d M' (0, ri_loc M'.2.2.2.1 (.ref b :: (st.take n).reverse), []) σ (fun v σ' => ev_W (d + 1) M (np, L, v.toList ++ r) σ' Q)) : ev_W (d + 1) M (pc, L, st) σ Q := by
  refine ev_cl hf rfl ?_ h3 kk
  show ri_cl M (.invokevirtual k) _ _ = _
  simp only [ri_cl, ht, hd, hb]
  rw [if_pos ⟨trivial, Nat.eq_of_beq_eq_true h1, Nat.le_of_ble_eq_true h2⟩]
/-- Math.max, Math.min -/
theorem ev_max {k : Nat} {x y : Int32} (hf : ri_find pc M.2.2.2.2.2 = some (.invokestatic k, np, tg, kv)) (h0 : ri_cl M (.invokestatic k) (.int y :: .int x :: r) σ = none) (ho : rt_o M.1 k = 2) (h2 : Nat.ble (r.map fun v => v.category).sum 8 = true) (kk : ev_W (d + 1) M (np, L, .int (if x < y then y else x) :: r) σ Q) : ev_W (d + 1) M (pc, L, .int y :: .int x :: r) σ Q := by
  refine ev_lf hf rfl h0 ?_ kk
  show ri_lf M (.invokestatic k) _ _ = _
  simp only [ri_lf, ho]
  rw [if_pos (Nat.le_of_ble_eq_true h2)]
theorem ev_min {k : Nat} {x y : Int32} (hf : ri_find pc M.2.2.2.2.2 = some (.invokestatic k, np, tg, kv)) (h0 : ri_cl M (.invokestatic k) (.int y :: .int x :: r) σ = none) (ho : rt_o M.1 k = 3) (h2 : Nat.ble (r.map fun v => v.category).sum 8 = true) (kk : ev_W (d + 1) M (np, L, .int (if y < x then y else x) :: r) σ Q) : ev_W (d + 1) M (pc, L, .int y :: .int x :: r) σ Q := by
  refine ev_lf hf rfl h0 ?_ kk
  show ri_lf M (.invokestatic k) _ _ = _
  simp only [ri_lf, ho]
  rw [if_pos (Nat.le_of_ble_eq_true h2)]
/-- System.arraycopy -/
theorem ev_cpy {k a a0 n0 n1 : Nat} {n dp sp : Int32} {f g : Nat → Int32} (hf : ri_find pc M.2.2.2.2.2 = some (.invokestatic k, np, tg, kv)) (h0 : ri_cl M (.invokestatic k) (.int n :: .int dp :: .ref a :: .int sp :: .ref a0 :: r) σ = none) (ho : rt_o M.1 k = 4) (ha0 : σ.1 a0 = some (.inl (.int, n0, .inl f))) (ha : σ.1 a = some (.inl (.int, n1, .inl g))) (h1 : ¬ sp < 0 ∧ ¬ dp < 0 ∧ ¬ n < 0) (h4 : sp.toNatClampNeg + n.toNatClampNeg ≤ n0) (h5 : dp.toNatClampNeg + n.toNatClampNeg ≤ n1) (h2 : Nat.ble (r.map fun v => v.category).sum 8 = true)
    (kk : ev_W (d + 1) M (np, L, r) (ri_up σ.1 a (.inl (.int, n1, .inl (va_cpy f g sp.toNatClampNeg dp.toNatClampNeg n.toNatClampNeg))), σ.2) Q) : ev_W (d + 1) M (pc, L, .int n :: .int dp :: .ref a :: .int sp :: .ref a0 :: r) σ Q := by
  refine ev_lf hf rfl h0 ?_ kk
  show ri_lf M (.invokestatic k) _ _ = _
  simp only [ri_lf, ho, ha0, ha]
  rw [if_pos ⟨h1, h4, h5, Nat.le_of_ble_eq_true h2⟩]
end EVC
section EVG
variable {d : Nat} {M : ri_M} {pc np tg : Nat} {kv : Int32} {L : List (Option Value)} {r : List Value} {σ : ri_S} {Q : Option Value → ri_S → Prop}
theorem ev_bald {a n : Nat} {j : Int32} {f : Nat → Int32} (hf : ri_find pc M.2.2.2.2.2 = some (.baload, np, tg, kv)) (ha : σ.1 a = some (.inl (.boolean, n, .inl f))) (hj : ¬ (j < 0 ∨ n ≤ j.toNatClampNeg)) (kk : ev_W d M (np, L, .int (f j.toNatClampNeg) :: r) σ Q) : ev_W d M (pc, L, .int j :: .ref a :: r) σ Q := by
  refine ev_hx hf rfl rfl rfl rfl ?_ kk
  show ri_hx M .baload _ _ = _
  simp only [ri_hx, ha]
  rw [if_neg hj]
theorem ev_bast {a n : Nat} {j x : Int32} {f : Nat → Int32} (hf : ri_find pc M.2.2.2.2.2 = some (.bastore, np, tg, kv)) (ha : σ.1 a = some (.inl (.boolean, n, .inl f))) (hj : ¬ (j < 0 ∨ n ≤ j.toNatClampNeg)) (kk : ev_W d M (np, L, r) (ri_up σ.1 a (.inl (.boolean, n, .inl (upd f j.toNatClampNeg (vp_nar .boolean x)))), σ.2) Q) : ev_W d M (pc, L, .int x :: .int j :: .ref a :: r) σ Q := by
  refine ev_hx hf rfl rfl rfl rfl ?_ kk
  show ri_hx M .bastore _ _ = _
  simp only [ri_hx, ha]
  rw [if_neg hj]
theorem ev_aast {a n v n2 : Nat} {j : Int32} {f : Nat → Option Nat} {f2 : Nat → Int32} (hf : ri_find pc M.2.2.2.2.2 = some (.aastore, np, tg, kv)) (ha : σ.1 a = some (.inl (.array .int, n, .inr (.inr (.inr (.inr f)))))) (hv : σ.1 v = some (.inl (.int, n2, .inl f2))) (hj : ¬ (j < 0 ∨ n ≤ j.toNatClampNeg)) (kk : ev_W d M (np, L, r) (ri_up σ.1 a (.inl (.array .int, n, .inr (.inr (.inr (.inr (va_up f j.toNatClampNeg (some v))))))), σ.2) Q) : ev_W d M (pc, L, .ref v :: .int j :: .ref a :: r) σ Q := by
  refine ev_hx hf rfl rfl rfl rfl ?_ kk
  show ri_hx M .aastore _ _ = _
  simp only [ri_hx, ha, hv]
  rw [if_neg hj]
theorem ev_newz {n : Int32} {N : Nat} (hf : ri_find pc M.2.2.2.2.2 = some (.newarray .boolean, np, tg, kv)) (hn : ¬ n < 0) (hN : n.toNatClampNeg = N) (hb : N ≤ 67108864) (kk : ev_W d M (np, L, .ref σ.2.1 :: r) (ri_up σ.1 σ.2.1 (.inl (.boolean, N, .inl fun _ => 0)), σ.2.1 + 1, σ.2.2 + N) Q) : ev_W d M (pc, L, .int n :: r) σ Q := by
  subst hN
  refine ev_hx hf rfl rfl rfl rfl ?_ kk
  show ri_hx M (.newarray .boolean) _ _ = _
  simp only [ri_hx]
  rw [if_neg (by rintro (q | q); exact hn q; omega)]
theorem ev_grid {k : Nat} {m n : Int32} {N K : Nat} (hf : ri_find pc M.2.2.2.2.2 = some (.multianewarray k 2, np, tg, kv)) (hm : rt_m M.1 k = true) (hn : ¬ n < 0) (hm0 : ¬ m < 0) (hN : n.toNatClampNeg = N) (hK : m.toNatClampNeg = K) (hb : N ≤ 67108864) (hb2 : K ≤ 67108864) (kk : ev_W d M (np, L, .ref σ.2.1 :: r) (ri_grid σ.1 σ.2.1 N K, σ.2.1 + 1 + N, σ.2.2 + N + N * K) Q) : ev_W d M (pc, L, .int m :: .int n :: r) σ Q := by
  subst hN
  subst hK
  refine ev_hx hf rfl rfl rfl rfl ?_ kk
  show ri_hx M (.multianewarray k 2) _ _ = _
  simp only [ri_hx, hm]
  rw [if_neg (by rintro (q | q | q | q); exact hn q; exact hm0 q; omega; omega)]
end EVG
