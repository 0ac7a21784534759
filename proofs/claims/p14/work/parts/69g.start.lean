/-! A RECORD PUT TOGETHER, 6: where it begins; what is wanted; the chosen columns' bits. -/
theorem st_nz {r : Int32} {M : List co_E} : ∀ (t : List co_E) (k : Nat) (b : Int32), (∀ en, en ∈ t → ¬ en.1 = 0) → co_st r (t ++ M) k b = co_st r M (k + t.length) b
  | [], _, _, _ => rfl
  | en :: t, k, b, h => by
    show (if en.1 = 0 then _ else co_st r (t ++ M) (k + 1) b) = _
    rw [if_neg (h en List.mem_cons_self), st_nz t (k + 1) b (fun x hx => h x (List.mem_cons_of_mem _ hx)), List.length_cons, show k + 1 + t.length = k + (t.length + 1) by omega]
theorem st_rec {r b : Int32} {d k : Nat} {L M : List co_E} (h : hd_L 0 d L) : co_st r (L ++ M) k b = if b = r then k else co_st r M (k + L.length) (b + 1) := by
  obtain ⟨x, v, t, rfl, -, -, h4⟩ := h
  show (if (0 : Int32) = 0 then (if b = r then k else co_st r (t ++ M) (k + 1) (b + 1)) else _) = _
  rw [if_pos rfl, st_nz t (k + 1) (b + 1) h4, List.length_cons, show k + 1 + t.length = k + (t.length + 1) by omega]
theorem en_split {ofs aro val wy D R : Nat → Int32} {s : Nat} {Bn : Nat → Nat} {m : Nat} : ∀ (a q : Nat), en_fr ofs aro val wy D R s Bn (a + m) q = en_fr ofs aro val wy D R s Bn a q ++ en_fr ofs aro val wy D R s Bn m (q + a)
  | 0, q => by rw [Nat.zero_add]; rfl
  | a + 1, q => by
    rw [show a + 1 + m = (a + m) + 1 by omega]
    show fi_rec ofs aro val wy D R s (Bn q) (Bn (q + 1)) ++ en_fr ofs aro val wy D R s Bn (a + m) (q + 1) = fi_rec ofs aro val wy D R s (Bn q) (Bn (q + 1)) ++ en_fr ofs aro val wy D R s Bn a (q + 1) ++ _
    rw [en_split a (q + 1), List.append_assoc, show q + 1 + a = q + (a + 1) by omega]
theorem st_fr {ofs aro val wy D R : Nat → Int32} {s i : Nat} {Bn : Nat → Nat} {M : List co_E} (hi : i ≤ 128) (hh : ∀ j, j < i → hd_L 0 0 (fi_rec ofs aro val wy D R s (Bn j) (Bn (j + 1)))) : ∀ (m q k : Nat), q + m = i → co_st (nI i) (en_fr ofs aro val wy D R s Bn m q ++ M) k (nI q) = co_st (nI i) M (k + (en_fr ofs aro val wy D R s Bn m q).length) (nI i)
  | 0, q, k, hq => by rw [show q = i by omega]; rfl
  | m + 1, q, k, hq => by
    show co_st (nI i) ((fi_rec ofs aro val wy D R s (Bn q) (Bn (q + 1)) ++ en_fr ofs aro val wy D R s Bn m (q + 1)) ++ M) k (nI q) = co_st (nI i) M (k + (fi_rec ofs aro val wy D R s (Bn q) (Bn (q + 1)) ++ en_fr ofs aro val wy D R s Bn m (q + 1)).length) (nI i)
    rw [List.append_assoc, st_rec (hh q (by omega)), if_neg (fun z => by have := (nI_eq (by omega) (by omega)).mp z; omega), nI_1, st_fr hi hh m (q + 1) _ (by omega), List.length_append, Nat.add_assoc]
theorem seek_at {N : Nat} {col : Nat → List co_E} {ch : Int64} {r : Int32} {c : Nat} : ∀ (m c0 : Nat) (C : Nat → Int32), c0 + m ≤ 48 → pu_seek N col ch r m c0 C c = if c0 ≤ c ∧ c < c0 + m ∧ ¬ st_hv ch (nI c) = 0 then co_from N col (nI c) r else C c
  | 0, c0, C, _ => by rw [if_neg (fun z => by omega)]; rfl
  | m + 1, c0, C, hm => by
    show pu_seek N col ch r m (c0 + 1) (if st_hv ch (nI c0) = 0 then C else upd C c0 (co_from N col (nI c0) r)) c = _
    rw [seek_at m (c0 + 1) _ (by omega)]
    by_cases z : c = c0
    · subst z
      rw [if_neg (fun z => by omega)]
      by_cases y : st_hv ch (nI c) = 0
      · rw [if_pos y, if_neg (fun z => z.2.2 y)]
      · rw [if_neg y, if_pos ⟨Nat.le_refl _, by omega, y⟩, pk_us]
    · have ec : (if st_hv ch (nI c0) = 0 then C else upd C c0 (co_from N col (nI c0) r)) c = C c := by
        split
        · rfl
        · exact pk_un z
      rw [ec]
      by_cases y : c0 + 1 ≤ c ∧ c < c0 + 1 + m ∧ ¬ st_hv ch (nI c) = 0
      · rw [if_pos y, if_pos ⟨by omega, by omega, y.2.2⟩]
      · rw [if_neg y, if_neg (fun x => y ⟨by omega, by omega, x.2.2⟩)]
/-- what the reference wants -/
theorem wd_an {par G : Nat → Int32} {lo hi : Int32} {n : Nat} {w : Nat → Int32} {f : Nat} (hf : f < n) : ∀ i, i ≤ n → (¬ mo_wd par G lo hi n (mo_z w n) i f = 0 ↔ ∃ f0, f0 < i ∧ mo_is G lo hi f0 ∧ li_an par n (nI f0) f)
  | 0, _ => by
    constructor
    · intro h
      exact absurd (show mo_z w n f = 0 from if_pos hf) h
    · rintro ⟨f0, h, -⟩
      exact absurd h (Nat.not_lt_zero _)
  | i + 1, hi' => by
    have ih := wd_an (par := par) (G := G) (lo := lo) (hi := hi) (w := w) hf i (by omega)
    unfold mo_wd
    split
    · rename_i z
      obtain ⟨a1, a2⟩ := mk_an (par := par) n (nI i) (mo_wd par G lo hi n (mo_z w n) i) f
      by_cases y : li_an par n (nI i) f
      · rw [a1 y]
        exact ⟨fun _ => ⟨i, by omega, z, y⟩, fun _ => by decide⟩
      · rw [a2 y, ih]
        constructor
        · rintro ⟨f0, h1, h2⟩
          exact ⟨f0, by omega, h2⟩
        · rintro ⟨f0, h1, h2, h3⟩
          refine ⟨f0, ?_, h2, h3⟩
          by_cases x : f0 = i
          · rw [x] at h3; exact absurd h3 y
          · omega
    · rename_i z
      rw [ih]
      constructor
      · rintro ⟨f0, h1, h2⟩
        exact ⟨f0, by omega, h2⟩
      · rintro ⟨f0, h1, h2, h3⟩
        refine ⟨f0, ?_, h2, h3⟩
        by_cases x : f0 = i
        · rw [x] at h2; exact absurd h2 z
        · omega
/-- bit 0 -/
theorem bt_1 (x : Int32) : (x &&& 1) = 1 ↔ x.toBitVec.getLsbD 0 = true := by
  rw [← Int32.toBitVec_inj, Int32.toBitVec_and]
  show x.toBitVec &&& 1#32 = 1#32 ↔ _
  constructor
  · intro h
    have t := congrArg (fun x => x.getLsbD 0) h
    simpa using t
  · intro h
    apply BitVec.eq_of_getLsbD_eq
    intro i hi
    cases i with
    | zero => simp [h]
    | succ i => simp
theorem bt_sm : ∀ n, n < 32 → ((nI n &&& 31).toBitVec.smod 32).toNat = n := by decide +kernel
theorem bt_sh (n : Nat) (hn : n < 32) (x : Int32) : (x >>> (nI n &&& 31)).toBitVec.getLsbD 0 = x.toBitVec.getLsbD n := by
  rw [Int32.toBitVec_shiftRight, BitVec.sshiftRight_eq', bt_sm n hn, BitVec.getLsbD_sshiftRight]
  simp [hn]
theorem bt_lo (x : Int32) (c : Nat) : (x.toInt64 &&& 4294967295).toBitVec.getLsbD c = (decide (c < 32) && x.toBitVec.getLsbD c) := by
  rw [Int64.toBitVec_and, BitVec.getLsbD_and, Int32.toBitVec_toInt64, BitVec.getLsbD_signExtend]
  rw [show (4294967295 : Int64).toBitVec = 4294967295#64 from rfl]
  by_cases h : c < 32
  · have e : (4294967295#64).getLsbD c = true := by
      have : ∀ c, c < 32 → (4294967295#64).getLsbD c = true := by decide +kernel
      exact this c h
    simp [e, h]
    omega
  · by_cases h2 : c < 64
    · have e : (4294967295#64).getLsbD c = false := by
        have : ∀ c, c < 64 → 32 ≤ c → (4294967295#64).getLsbD c = false := by decide +kernel
        exact this c h2 (by omega)
      simp [e, h]
    · simp [h, h2]
theorem bt_hi (x : Int32) (c : Nat) (hc : c < 16) : (x.toInt64 &&& 65535).toBitVec.getLsbD c = x.toBitVec.getLsbD c := by
  rw [Int64.toBitVec_and, BitVec.getLsbD_and, Int32.toBitVec_toInt64, BitVec.getLsbD_signExtend]
  have e : ∀ c, c < 16 → (65535#64).getLsbD c = true := by decide +kernel
  rw [show (65535 : Int64).toBitVec = 65535#64 from rfl, e c hc]
  simp [show c < 64 by omega, show c < 32 by omega]
theorem ch_bit (lo hi : Int32) {c : Nat} (hc : c < 48) : mo_bit lo hi (nI c) ↔ ¬ st_hv (cl_ch lo hi) (nI c) = 0 := by
  rw [hv_bit hc]
  unfold mo_bit cl_ch
  rw [show (((32 : Int32).toInt64 &&& 63) : Int64) = 32 from by decide +kernel, Int64.toBitVec_or, BitVec.getLsbD_or, bt_lo, Int64.toBitVec_shiftLeft]
  rw [show ((32 : Int64).toBitVec.smod 64) = 32#64 from by decide +kernel, bt_1]
  rw [show BitVec.getLsbD ((hi.toInt64 &&& 65535).toBitVec <<< (32#64)) c = BitVec.getLsbD ((hi.toInt64 &&& 65535).toBitVec <<< 32) c from rfl, BitVec.getLsbD_shiftLeft]
  rcases Nat.lt_or_ge c 32 with z | z
  · rw [if_neg (fun y => by rw [show (32 : Int32) = nI 32 from rfl, nI_leI (by decide) (by omega)] at y; omega), bt_sh c z]
    simp [z]
  · rw [if_pos (by rw [show (32 : Int32) = nI 32 from rfl]; exact nI_le z (by omega))]
    obtain ⟨d, rfl⟩ : ∃ d, c = d + 32 := ⟨c - 32, by omega⟩
    have e : nI (d + 32) - 32 = nI d := by
      rw [show nI (d + 32) = nI d + 32 from (nI_add d 32).symm]
      exact Int32.add_sub_cancel _ _
    rw [e, bt_sh d (by omega), Nat.add_sub_cancel, bt_hi hi d (by omega)]
    simp [show d + 32 < 64 by omega]
