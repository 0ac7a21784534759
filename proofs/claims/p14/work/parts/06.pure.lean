/-! A step without cells is the machine's (written by a program: gen06.py). -/
section RIP
variable {p : Program} {l : Launch} {e : Env} {R : Room} {s : State} {m : MethodId} {args : Array Value} {below : List Frame} {meth : Method} {c : Code} {H : Heap} {locs : List Loc} {cells slots : Nat} {Q : State → Prop}
set_option maxHeartbeats 4000000 in
set_option maxRecDepth 100000 in
theorem ri_pxW {bb : ByteArray} {own : String} {ci : Nat} (hx : p.tables.exec = Jvm.exec) (hb : c.code = bb) (hown : s.vm.findClass own = some m.cls) (hki : ∀ k v, rt_i ci k = some v → (Cond.constant own k v).before args s = true) (hkl : ∀ k v, rt_l ci k = some v → (Cond.constantLong own k v).before args s = true)
    {pc : Nat} {x : Instr × Nat × Nat × Int32} (hc : ri_ck bb (pc, x)) {L : List (Option Value)} {st : List Value} {F' : ri_F} (h : ri_px ci x L st = some F') {ls : Array Slot} (hl : ri_H ls L)
    (kk : ∀ ls' : Array Slot, ri_H ls' F'.2.1 → W p l e R s m args below meth c H locs cells slots Q (F0 m F'.1 ls' F'.2.2)) : W p l e R s m args below meth c H locs cells slots Q (F0 m pc ls st) := by
  obtain ⟨i, np, tg, kv⟩ := x
  obtain ⟨hd, hs⟩ := hc
  dsimp only at hd
  cases i
  case iconst k =>
    obtain ⟨h1, h2⟩ : np = pc + 1 ∧ _ = kv := by simpa [ri_sp] using hs
    subst h1
    cases h
    exact lv_iconst hx hb (ri_dl hd) h2 (kk ls hl)
  case bipush k =>
    obtain ⟨h1, h2⟩ : np = pc + 2 ∧ _ = kv := by simpa [ri_sp] using hs
    subst h1
    cases h
    exact lv_bipush hx hb (ri_dl hd) h2 (kk ls hl)
  case sipush k =>
    obtain ⟨h1, h2⟩ : np = pc + 3 ∧ _ = kv := by simpa [ri_sp] using hs
    subst h1
    cases h
    exact lv_sipush hx hb (ri_dl hd) h2 (kk ls hl)
  case lconst k =>
    obtain rfl : np = pc + 1 := by simpa [ri_sp] using hs
    cases h
    exact lv_lconst hx hb (ri_dl hd) rfl (kk ls hl)
  case ldc k =>
    obtain rfl : np = pc + 2 := by simpa [ri_sp] using hs
    simp only [ri_px] at h
    split at h
    · rename_i v hv
      cases h
      exact lv_ldc hx hb hown (hki k v hv) (ri_dl hd) (kk ls hl)
    · cases h
  case ldc2_w k =>
    obtain rfl : np = pc + 3 := by simpa [ri_sp] using hs
    simp only [ri_px] at h
    split at h
    · rename_i v hv
      cases h
      exact lv_ldc2 hx hb hown (hkl k v hv) (ri_dl hd) (kk ls hl)
    · cases h
  case aconst_null =>
    obtain rfl : np = pc + 1 := by simpa [ri_sp] using hs
    cases h
    exact lv_null hx hb (ri_dl hd) (kk ls hl)
  case iload k =>
    obtain rfl : np = pc + 2 := by simpa [ri_sp] using hs
    simp only [ri_px] at h
    split at h
    · rename_i v hv
      cases h
      exact lv_iload hx hb (ri_dl hd) (hl.at hv) (kk ls hl)
    · cases h
  case iload_n k =>
    obtain rfl : np = pc + 1 := by simpa [ri_sp] using hs
    simp only [ri_px] at h
    split at h
    · rename_i v hv
      cases h
      exact lv_iload_n hx hb (ri_dl hd) rfl (hl.at hv) (kk ls hl)
    · cases h
  case lload k =>
    obtain rfl : np = pc + 2 := by simpa [ri_sp] using hs
    simp only [ri_px] at h
    split at h
    · rename_i v hv
      cases h
      exact lv_lload hx hb (ri_dl hd) (hl.at hv) (kk ls hl)
    · cases h
  case lload_n k =>
    obtain rfl : np = pc + 1 := by simpa [ri_sp] using hs
    simp only [ri_px] at h
    split at h
    · rename_i v hv
      cases h
      exact lv_lload_n hx hb (ri_dl hd) rfl (hl.at hv) (kk ls hl)
    · cases h
  case aload k =>
    obtain rfl : np = pc + 2 := by simpa [ri_sp] using hs
    simp only [ri_px] at h
    split at h
    · rename_i v hv
      cases h
      exact lv_aload hx hb (ri_dl hd) (hl.at hv) (kk ls hl)
    · cases h
  case aload_n k =>
    obtain rfl : np = pc + 1 := by simpa [ri_sp] using hs
    simp only [ri_px] at h
    split at h
    · rename_i v hv
      cases h
      exact lv_aload_n hx hb (ri_dl hd) rfl (hl.at hv) (kk ls hl)
    · cases h
  case istore k =>
    obtain rfl : np = pc + 2 := by simpa [ri_sp] using hs
    simp only [ri_px] at h
    split at h
    · rename_i v r hn
      cases h
      refine lv_istore hx hb (ri_dl hd) hl (Nat.le_of_ble_eq_true hn) rfl (fun ls' hl' => kk ls' (ri_H.put1 rfl hl'))
    · cases h
  case istore_n k =>
    obtain rfl : np = pc + 1 := by simpa [ri_sp] using hs
    simp only [ri_px] at h
    split at h
    · rename_i v r hn
      cases h
      refine lv_istore_n hx hb (ri_dl hd) rfl hl (Nat.le_of_ble_eq_true hn) rfl (fun ls' hl' => kk ls' (ri_H.put1 rfl hl'))
    · cases h
  case lstore k =>
    obtain rfl : np = pc + 2 := by simpa [ri_sp] using hs
    simp only [ri_px] at h
    split at h
    · rename_i v r hn
      cases h
      refine lv_lstore hx hb (ri_dl hd) hl (Nat.le_of_ble_eq_true hn) rfl (fun ls' hl' => kk ls' (ri_H.put2 rfl hl'))
    · cases h
  case lstore_n k =>
    obtain rfl : np = pc + 1 := by simpa [ri_sp] using hs
    simp only [ri_px] at h
    split at h
    · rename_i v r hn
      cases h
      refine lv_lstore_n hx hb (ri_dl hd) rfl hl (Nat.le_of_ble_eq_true hn) rfl (fun ls' hl' => kk ls' (ri_H.put2 rfl hl'))
    · cases h
  case astore k =>
    obtain rfl : np = pc + 2 := by simpa [ri_sp] using hs
    simp only [ri_px] at h
    split at h
    · rename_i v r hn
      cases h
      refine lv_astore hx hb (ri_dl hd) hl (Nat.le_of_ble_eq_true hn) rfl (fun ls' hl' => kk ls' (ri_H.put1 rfl hl'))
    · cases h
  case astore_n k =>
    obtain rfl : np = pc + 1 := by simpa [ri_sp] using hs
    simp only [ri_px] at h
    split at h
    · rename_i v r hn
      cases h
      refine lv_astore_n hx hb (ri_dl hd) rfl hl (Nat.le_of_ble_eq_true hn) rfl (fun ls' hl' => kk ls' (ri_H.put1 rfl hl'))
    · cases h
  case iinc k n =>
    obtain ⟨h1, h2⟩ : np = pc + 3 ∧ Int32.ofInt n = kv := by simpa [ri_sp] using hs
    subst h1
    simp only [ri_px] at h
    split at h
    · rename_i v hv hn
      cases h
      obtain ⟨q, hq⟩ := List.getElem?_of_mem (ri_en_mem.mpr hv : (k, Value.int v) ∈ ri_en L)
      refine lv_iinc hx hb (ri_dl hd) hl hq (by rw [h2]) (Nat.le_of_ble_eq_true hn) rfl (fun ls' hl' => kk ls' (ri_H.put1 rfl hl'))
    · cases h
  case iadd =>
    obtain rfl : np = pc + 1 := by simpa [ri_sp] using hs
    simp only [ri_px] at h
    split at h
    · cases h
      exact lv_iadd hx hb (ri_dl hd) (kk ls hl)
    · cases h
  case isub =>
    obtain rfl : np = pc + 1 := by simpa [ri_sp] using hs
    simp only [ri_px] at h
    split at h
    · cases h
      exact lv_isub hx hb (ri_dl hd) (kk ls hl)
    · cases h
  case imul =>
    obtain rfl : np = pc + 1 := by simpa [ri_sp] using hs
    simp only [ri_px] at h
    split at h
    · cases h
      exact lv_imul hx hb (ri_dl hd) (kk ls hl)
    · cases h
  case iand =>
    obtain rfl : np = pc + 1 := by simpa [ri_sp] using hs
    simp only [ri_px] at h
    split at h
    · cases h
      exact lv_iand hx hb (ri_dl hd) (kk ls hl)
    · cases h
  case ior =>
    obtain rfl : np = pc + 1 := by simpa [ri_sp] using hs
    simp only [ri_px] at h
    split at h
    · cases h
      exact lv_ior hx hb (ri_dl hd) (kk ls hl)
    · cases h
  case ishl =>
    obtain rfl : np = pc + 1 := by simpa [ri_sp] using hs
    simp only [ri_px] at h
    split at h
    · cases h
      exact lv_ishl hx hb (ri_dl hd) (kk ls hl)
    · cases h
  case ishr =>
    obtain rfl : np = pc + 1 := by simpa [ri_sp] using hs
    simp only [ri_px] at h
    split at h
    · cases h
      exact lv_ishr hx hb (ri_dl hd) (kk ls hl)
    · cases h
  case land =>
    obtain rfl : np = pc + 1 := by simpa [ri_sp] using hs
    simp only [ri_px] at h
    split at h
    · cases h
      exact lv_land hx hb (ri_dl hd) (kk ls hl)
    · cases h
  case lor =>
    obtain rfl : np = pc + 1 := by simpa [ri_sp] using hs
    simp only [ri_px] at h
    split at h
    · cases h
      exact lv_lor hx hb (ri_dl hd) (kk ls hl)
    · cases h
  case iushr =>
    obtain rfl : np = pc + 1 := by simpa [ri_sp] using hs
    simp only [ri_px] at h
    split at h
    · cases h
      exact lv_iushr hx hb (ri_dl hd) rfl (kk ls hl)
    · cases h
  case lshl =>
    obtain rfl : np = pc + 1 := by simpa [ri_sp] using hs
    simp only [ri_px] at h
    split at h
    · cases h
      exact lv_lshl hx hb (ri_dl hd) rfl (kk ls hl)
    · cases h
  case lushr =>
    obtain rfl : np = pc + 1 := by simpa [ri_sp] using hs
    simp only [ri_px] at h
    split at h
    · cases h
      exact lv_lushr hx hb (ri_dl hd) rfl (kk ls hl)
    · cases h
  case i2l =>
    obtain rfl : np = pc + 1 := by simpa [ri_sp] using hs
    simp only [ri_px] at h
    split at h
    · cases h
      exact lv_i2l hx hb (ri_dl hd) rfl (kk ls hl)
    · cases h
  case l2i =>
    obtain rfl : np = pc + 1 := by simpa [ri_sp] using hs
    simp only [ri_px] at h
    split at h
    · cases h
      exact lv_l2i hx hb (ri_dl hd) rfl (kk ls hl)
    · cases h
  case lcmp =>
    obtain rfl : np = pc + 1 := by simpa [ri_sp] using hs
    simp only [ri_px] at h
    split at h
    · cases h
      exact W.lcmp hx hb (ri_dl hd) (kk ls hl)
    · cases h
  case dup =>
    obtain rfl : np = pc + 1 := by simpa [ri_sp] using hs
    simp only [ri_px] at h
    split at h
    · split at h
      · rename_i q
        cases h
        exact lv_dup hx hb (ri_dl hd) q (kk ls hl)
      · cases h
    · cases h
  case pop =>
    obtain rfl : np = pc + 1 := by simpa [ri_sp] using hs
    simp only [ri_px] at h
    split at h
    · split at h
      · rename_i q
        cases h
        exact lv_pop hx hb (ri_dl hd) q (kk ls hl)
      · cases h
    · cases h
  case dup_x1 =>
    obtain rfl : np = pc + 1 := by simpa [ri_sp] using hs
    simp only [ri_px] at h
    split at h
    · split at h
      · rename_i q
        cases h
        exact lv_dup_x1 hx hb (ri_dl hd) q.1 q.2 (kk ls hl)
      · cases h
    · cases h
  case dup_x2 =>
    obtain rfl : np = pc + 1 := by simpa [ri_sp] using hs
    simp only [ri_px] at h
    split at h
    · split at h
      · rename_i q
        cases h
        exact lv_dup_x2 hx hb (ri_dl hd) q.1 q.2.1 q.2.2 (kk ls hl)
      · cases h
    · cases h
  case dup2 =>
    obtain rfl : np = pc + 1 := by simpa [ri_sp] using hs
    simp only [ri_px] at h
    split at h
    · split at h
      · rename_i q
        cases h
        exact lv_dup2_2 hx hb (ri_dl hd) q (kk ls hl)
      · split at h
        · split at h
          · rename_i q
            cases h
            exact lv_dup2_11 hx hb (ri_dl hd) q.1 q.2 (kk ls hl)
          · cases h
        · cases h
    · cases h
  case ifCond cd off =>
    obtain ⟨h1, ht⟩ : np = pc + 3 ∧ (pc : Int) + off = (tg : Int) := by simpa [ri_sp] using hs
    subst h1
    simp only [ri_px] at h
    split at h
    · cases cd
      · cases h
        exact lv_if_eq hx hb (ri_dl hd) ht (fun q => by have k0 := kk ls hl; dsimp only at k0; rw [if_pos q] at k0; exact k0) (fun q => by have k0 := kk ls hl; dsimp only at k0; rw [if_neg q] at k0; exact k0)
      · cases h
        exact lv_if_ne hx hb (ri_dl hd) ht (fun q => by have k0 := kk ls hl; dsimp only at k0; rw [if_neg q] at k0; exact k0) (fun q => by have k0 := kk ls hl; dsimp only at k0; rw [if_pos q] at k0; exact k0)
      · cases h
        exact lv_if_lt hx hb (ri_dl hd) ht (fun q => by have k0 := kk ls hl; dsimp only at k0; rw [if_pos q] at k0; exact k0) (fun q => by have k0 := kk ls hl; dsimp only at k0; rw [if_neg q] at k0; exact k0)
      · cases h
        exact lv_if_ge hx hb (ri_dl hd) ht (fun q => by have k0 := kk ls hl; dsimp only at k0; rw [if_pos q] at k0; exact k0) (fun q => by have k0 := kk ls hl; dsimp only at k0; rw [if_neg q] at k0; exact k0)
      · cases h
        exact lv_if_gt hx hb (ri_dl hd) ht (fun q => by have k0 := kk ls hl; dsimp only at k0; rw [if_pos q] at k0; exact k0) (fun q => by have k0 := kk ls hl; dsimp only at k0; rw [if_neg q] at k0; exact k0)
      · cases h
        exact lv_if_le hx hb (ri_dl hd) ht (fun q => by have k0 := kk ls hl; dsimp only at k0; rw [if_pos q] at k0; exact k0) (fun q => by have k0 := kk ls hl; dsimp only at k0; rw [if_neg q] at k0; exact k0)
    · cases h
  case if_icmp cd off =>
    obtain ⟨h1, ht⟩ : np = pc + 3 ∧ (pc : Int) + off = (tg : Int) := by simpa [ri_sp] using hs
    subst h1
    simp only [ri_px] at h
    split at h
    · cases cd
      · cases h
        exact lv_icmp_eq hx hb (ri_dl hd) ht (fun q => by have k0 := kk ls hl; dsimp only at k0; rw [if_pos q] at k0; exact k0) (fun q => by have k0 := kk ls hl; dsimp only at k0; rw [if_neg q] at k0; exact k0)
      · cases h
        exact lv_icmp_ne hx hb (ri_dl hd) ht (fun q => by have k0 := kk ls hl; dsimp only at k0; rw [if_neg q] at k0; exact k0) (fun q => by have k0 := kk ls hl; dsimp only at k0; rw [if_pos q] at k0; exact k0)
      · cases h
        exact lv_icmp_lt hx hb (ri_dl hd) ht (fun q => by have k0 := kk ls hl; dsimp only at k0; rw [if_pos q] at k0; exact k0) (fun q => by have k0 := kk ls hl; dsimp only at k0; rw [if_neg q] at k0; exact k0)
      · cases h
        exact lv_icmp_ge hx hb (ri_dl hd) ht (fun q => by have k0 := kk ls hl; dsimp only at k0; rw [if_pos q] at k0; exact k0) (fun q => by have k0 := kk ls hl; dsimp only at k0; rw [if_neg q] at k0; exact k0)
      · cases h
        exact lv_icmp_gt hx hb (ri_dl hd) ht (fun q => by have k0 := kk ls hl; dsimp only at k0; rw [if_pos q] at k0; exact k0) (fun q => by have k0 := kk ls hl; dsimp only at k0; rw [if_neg q] at k0; exact k0)
      · cases h
        exact lv_icmp_le hx hb (ri_dl hd) ht (fun q => by have k0 := kk ls hl; dsimp only at k0; rw [if_pos q] at k0; exact k0) (fun q => by have k0 := kk ls hl; dsimp only at k0; rw [if_neg q] at k0; exact k0)
    · cases h
  case goto off =>
    obtain ⟨h1, ht⟩ : np = pc + 3 ∧ (pc : Int) + off = (tg : Int) := by simpa [ri_sp] using hs
    subst h1
    cases h
    exact lv_goto hx hb (ri_dl hd) ht (kk ls hl)
  case tableswitch df lo hi offs =>
    obtain ⟨ht, hk⟩ : (pc : Int) + df = (tg : Int) ∧ kv.toInt = (pc : Int) := by simpa [ri_sp] using hs
    simp only [ri_px] at h
    split at h
    · split at h
      · rename_i q
        cases h
        exact lv_tableOut hx hb hd q ht (kk ls hl)
      · rename_i q
        split at h
        · rename_i off ho
          split at h
          · rename_i h0
            cases h
            refine lv_tableIn hx hb hd (fun z => q (Or.inl z)) (fun z => q (Or.inr z)) ho ?_ (kk ls hl)
            rw [hk] at h0 ⊢
            exact (Int.toNat_of_nonneg h0).symm
          · cases h
        · cases h
    · cases h
  all_goals cases h
end RIP
theorem ri_px_len {ci : Nat} {x : Instr × Nat × Nat × Int32} {L : List (Option Value)} {st : List Value} {F' : ri_F} (h : ri_px ci x L st = some F') : F'.2.1.length = L.length := by
  unfold ri_px at h
  (repeat' split at h) <;> first | (cases h; done) | (cases h; rfl) | (cases h; exact ri_put_len _ _ _)
