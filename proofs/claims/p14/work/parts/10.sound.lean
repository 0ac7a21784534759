/-! THE RUN, whole. -/
theorem ri_gin {ws : List Cond} (h : ∀ w ∈ ws, w ∈ rt_tbl) : GoodIn rt_tbl ws := fun w hw => ⟨h w hw, rt_good _ (h w hw)⟩
theorem ri_cl_ok {M M' : ri_M} {i : Instr} {st as r : List Value} {σ : ri_S} (h : ri_cl M i st σ = some (M', as, r)) : ri_okM M' := by
  unfold ri_cl at h
  (repeat' split at h) <;> first | (cases h; done) | (cases h; exact (rt_c_ok (by assumption)).1)
section RIX
variable {p : Program} {l : Launch} {e : Env} {R : Room} {s : State} {m : MethodId} {args : Array Value} {below : List Frame} {meth : Method} {c : Code} {H : Heap} {locs : List Loc} {cells slots : Nat} {Q : State → Prop}
set_option maxHeartbeats 4000000 in
set_option maxRecDepth 100000 in
/-- a call, over the callee's contract -/
theorem ri_clW {D : va_G} {aC : FieldType → ClassId} {z0 : Nat} {M M' : ri_M} (C0 : ri_C D aC M p s m args meth c) {pc : Nat} {x : Instr × Nat × Nat × Int32} (hc : ri_ck M.2.2.1 (pc, x)) {st as r : List Value} {σ σ1 : ri_S} {v : Option Value} {rm : Room} (hcl : ri_cl M x.1 st σ = some (M', as, r)) {ls : Array Slot} (hsz : ls.size = M.2.2.2.1) (hR : ri_R D aC z0 s σ H)
    (hM : Met l M'.2.1 (ri_ws M') rm (ri_Pc D aC z0 as σ) (ri_Qc D aC z0 v σ1) rm.cells rm.slots (fun q => z0 ≤ q)) (hfr : rm.frames + 1 ≤ R.frames) (hlo : 8 + (M'.2.2.2.1 + 11) + rm.locals ≤ R.locals) (hf : cells + rm.cells ≤ R.cells ∧ slots + rm.slots ≤ R.slots) :
    x.2.1 = pc + 3 ∧ va_Run p l e R s m args below meth c H locs cells slots rm.cells rm.slots (F0 m pc ls st) r (ri_Qc D aC z0 v σ1 as.toArray) (fun q => z0 ≤ q) := by
  obtain ⟨hx, hb, hml, hr, hown, hts, hlocks, hnm, hK⟩ := C0
  obtain ⟨i, np, tg, kv⟩ := x
  obtain ⟨hd, hs⟩ := hc
  dsimp only at hd hcl ⊢
  have hPc : ∀ U : State, U.heap = H → s.WarmedH U.vm → ri_Pc D aC z0 as σ as.toArray U := fun U hU hW => ⟨rfl, by rw [hU]; exact hR.moved hW.alike, hK.warm hW⟩
  cases i
  case invokevirtual k =>
    obtain rfl : np = pc + 3 := by simpa [ri_sp] using hs
    refine ⟨rfl, ?_⟩
    simp only [ri_cl] at hcl
    split at hcl
    · rename_i M1 n hf1
      split at hcl
      · rename_i b r1 hdr
        split at hcl
        · rename_i ck fs hb1
          split at hcl
          · rename_i hq
            obtain ⟨q1, q2, q3⟩ := hq
            cases hcl
            obtain ⟨okM, hini, hmh, hpar, g0⟩ := rt_c_ok hf1
            obtain ⟨T, N, g1, g2, g3, g4⟩ := g0
            have hat := hR.2.2 b _ hb1
            subst q1
            exact va_runV (C := M'.2.1.cls) (As := (st.take n).reverse) ⟨hx, hb, hml, hown, hts⟩ hM
              ⟨callB_of n hts (ri_gin (ws := ri_ws M') (fun w hw => by rcases List.mem_cons.mp hw with rfl | hw; exact okM.2.2.2.1; exact hw)) rfl rfl rfl (hts _ hini) (hts _ g2) ⟨hmh.1, hmh.2, hpar⟩ ⟨hfr, hlo⟩, hts _ g3, hts _ g4⟩
              ⟨ri_blind, va_recv hK.1 (ri_one hat.2) g1 (q0 := 0) rfl, hPc⟩ rfl (by rw [List.length_reverse]; exact q2) hsz (by rw [List.reverse_reverse, ← hdr]; exact (List.take_append_drop n st).symm) (lv_room q3) (ri_dl hd) hf
          · cases hcl
        · cases hcl
      · cases hcl
    · cases hcl
  case invokestatic k =>
    obtain rfl : np = pc + 3 := by simpa [ri_sp] using hs
    refine ⟨rfl, ?_⟩
    simp only [ri_cl] at hcl
    split at hcl
    · rename_i M1 n hf1
      split at hcl
      · rename_i hq
        cases hcl
        obtain ⟨okM, hini, hmh, hpar, g2, g3⟩ := rt_c_ok hf1
        exact va_runS (As := (st.take n).reverse) ⟨hx, hb, hml, hown, hts⟩ hM
          ⟨callB_of n hts (ri_gin (ws := ri_ws M') (fun w hw => by rcases List.mem_cons.mp hw with rfl | hw; exact okM.2.2.2.1; exact hw)) rfl rfl rfl (hts _ hini) (hts _ g2) ⟨hmh.1, hmh.2, hpar⟩ ⟨hfr, hlo⟩, hts _ g3⟩
          ⟨ri_blind, hPc⟩ rfl (by rw [List.length_reverse]; exact hq.1) hsz (by rw [List.reverse_reverse]; exact (List.take_append_drop n st).symm) (lv_room hq.2) (ri_dl hd) hf
      · cases hcl
    · rename_i M1 n hf1
      split at hcl
      · rename_i hq
        cases hcl
        obtain ⟨okM, hini, hmh, hpar, ⟨host, g2⟩, g3⟩ := rt_c_ok hf1
        exact va_runSN (As := (st.take n).reverse) ⟨hx, hb, hml, hown, hts⟩ hM
          ⟨va_cnB n hts (ri_gin (ws := ri_ws M') (fun w hw => by rcases List.mem_cons.mp hw with rfl | hw; exact okM.2.2.2.1; exact hw)) rfl rfl rfl (hK.2.1 _ g2) (hts _ hini) ⟨hmh.1, hmh.2, hpar⟩ ⟨hfr, hlo⟩, hts _ g3, trivial⟩
          ⟨ri_blind, hPc⟩ rfl (by rw [List.length_reverse]; exact hq.1) hsz (by rw [List.reverse_reverse]; exact (List.take_append_drop n st).symm) (lv_room hq.2) (ri_dl hd) hf
      · cases hcl
    · cases hcl
  case invokespecial k =>
    obtain rfl : np = pc + 3 := by simpa [ri_sp] using hs
    refine ⟨rfl, ?_⟩
    simp only [ri_cl] at hcl
    split at hcl
    · rename_i M1 n hf1
      split at hcl
      · rename_i b r1 hdr
        split at hcl
        · rename_i hq
          cases hcl
          obtain ⟨okM, hini, hmh, hpar, g2, g3, g4, g5⟩ := rt_c_ok hf1
          exact va_runI (As := (st.take n).reverse) (bytes := M'.2.2.1) (maxL := M'.2.2.2.1) ⟨hx, hb, hml, hown, hts⟩ hM
            ⟨callB_of n hts (ri_gin (ws := ri_ws M') (fun w hw => by rcases List.mem_cons.mp hw with rfl | hw; exact okM.2.2.2.1; exact hw)) (by unfold ri_ws; rw [g5]) rfl rfl (hts _ hini) (hts _ g2) ⟨hmh.1, hmh.2, hpar⟩ ⟨hfr, hlo⟩, g4, hts _ g3⟩
            ⟨ri_blind, hPc⟩ rfl (by rw [List.length_reverse]; exact hq.1) hsz (by rw [List.reverse_reverse, ← hdr]; exact (List.take_append_drop n st).symm) (lv_room hq.2) (ri_dl hd) hf
        · cases hcl
      · cases hcl
    · rename_i M1 n hf1
      split at hcl
      · rename_i b r1 hdr
        split at hcl
        · rename_i hq
          cases hcl
          obtain ⟨okM, hini, hmh, hpar, ⟨host, g2⟩, g3, g4, g5⟩ := rt_c_ok hf1
          exact va_runIN (As := (st.take n).reverse) (bytes := M'.2.2.1) (maxL := M'.2.2.2.1) ⟨hx, hb, hml, hown, hts⟩ hM
            ⟨va_cnB n hts (ri_gin (ws := ri_ws M') (fun w hw => by rcases List.mem_cons.mp hw with rfl | hw; exact okM.2.2.2.1; exact hw)) (by unfold ri_ws; rw [g5]) rfl rfl (hK.2.1 _ g2) (hts _ hini) ⟨hmh.1, hmh.2, hpar⟩ ⟨hfr, hlo⟩, g4, hts _ g3⟩
            ⟨ri_blind, hPc⟩ rfl (by rw [List.length_reverse]; exact hq.1) hsz (by rw [List.reverse_reverse, ← hdr]; exact (List.take_append_drop n st).symm) (lv_room hq.2) (ri_dl hd) hf
        · cases hcl
      · cases hcl
    · cases hcl
  all_goals cases hcl
/-- System.arraycopy of ints -/
theorem ri_cpyW {D : va_G} {aC : FieldType → ClassId} {cc : ByteArray} {pc : Nat} {ls : Array Slot} {rest : List Value} {a : Nat} (hexec : p.tables.exec = Jvm.exec) (hb : c.code = cc) (hml : c.maxLocals = ls.size) {own : String} {index : Nat} (hown : s.vm.findClass own = some m.cls) (hlink : (Cond.methodLink own index arraycopyName).before args s = true) (hnat : (Cond.native arraycopyName).before args s = true) (hstat : (Cond.static arraycopyName).before args s = true) (hini : (Cond.initialized "java/lang/System").before args s = true)
    (hK : ri_K D aC s) {a0 n0 n1 : Nat} {f g : Nat → Int32} (hc0 : H[a0]? = some (vp_cell (aC .int) (n0, .inl f))) (hc1 : H[a]? = some (vp_cell (aC .int) (n1, .inl g)))
    {sp dp n : Int32} (h1 : ¬ sp < 0) (h2 : ¬ dp < 0) (h3 : ¬ n < 0) (h4 : sp.toNatClampNeg + n.toNatClampNeg ≤ n0) (h5 : dp.toNatClampNeg + n.toNatClampNeg ≤ n1)
    (hframes : 1 ≤ R.frames) (hlocals : (rest.map fun v => v.category).sum + (nativeFrameWords "java/lang/System" "arraycopy" 5 + 11) ≤ R.locals) (hdg : decode cc pc = .ok (.invokestatic index, 3))
    (kk : ∀ (H1 : Heap) (L : List Loc), H1[a]? = some (vp_cell (aC .int) (n1, .inl (va_cpy f g sp.toNatClampNeg dp.toNatClampNeg n.toNatClampNeg))) → H1.size = H.size → (∀ q : Nat, q ≠ a → H1[q]? = H[q]?) → (∀ q ∈ L, q.base = a) → W p l e R s m args below meth c H1 (locs ++ L) cells slots Q (F0 m (pc + 3) ls rest)) : W p l e R s m args below meth c H locs cells slots Q (F0 m pc ls (.int n :: .int dp :: .ref a :: .int sp :: .ref a0 :: rest)) := by
  have nn : ∀ z : Int32, ¬ z < 0 → z.toInt = (z.toNatClampNeg : Int) := by
    intro z hz
    have hz0 : (0 : Int) ≤ z.toInt := by
      have := Int32.not_lt.mp hz
      simpa using Int32.le_iff_toInt_le.mp this
    show z.toInt = ((z.toInt.toNat : Nat) : Int)
    omega
  intro T hT X
  obtain ⟨-, k0, hk0, cm0, hkk0⟩ := (ri_K.arr hK rt_ty_int_in).1 n0 (fun j => .int (f j))
  obtain ⟨vm', X', step⟩ := X.arraycopy hexec hown hlink hnat hstat hini (src := a0) (dst := a) (cs := vp_cell (aC .int) (n0, .inl f)) (cd := vp_cell (aC .int) (n1, .inl g)) (srcPos := sp) (destPos := dp) (n := n) (by rw [hT]; exact hc0) (by rw [hT]; exact hc1)
    (fun _ h => by cases h) (fun _ h => by cases h) (fun h => by cases h) (fun h => by cases h) hk0 hk0 hkk0 hkk0 (by simp [refKind]) h1 h2 h3
    (by rw [nn sp h1, nn n h3]; show ¬ _ > ((arrV (aC .int) n0 (fun j => .int (f j))).slots.size : Int); rw [arrV_size]; omega)
    (by rw [nn dp h2, nn n h3]; show ¬ _ > ((arrV (aC .int) n1 (fun j => .int (g j))).slots.size : Int); rw [arrV_size]; omega)
    (fun vm₁ _ i hi => by
      have e : (vp_cell (aC .int) (n0, .inl f)).slots.getD (sp.toNatClampNeg + i) .null = .int (f (sp.toNatClampNeg + i)) := by
        show (arrV (aC .int) n0 (fun j => .int (f j))).slots.getD _ _ = _
        rw [Array.getD_eq_getD_getElem?, arrV_read _ _ (by omega)]
        rfl
      refine ⟨?_, ?_⟩
      · rw [e]; rfl
      · rw [e]; exact trivial)
    (g := F0 m pc ls (.int n :: .int dp :: .ref a :: .int sp :: .ref a0 :: rest)) rfl (by rw [hml]) (rest := rest) rfl (by rw [hb]; exact hdg) hframes (by show 2 * 0 + _ + _ ≤ _; omega)
  have e1 : copied (vp_cell (aC .int) (n0, .inl f)) (vp_cell (aC .int) (n1, .inl g)) sp dp n = vp_cell (aC .int) (n1, .inl (va_cpy f g sp.toNatClampNeg dp.toNatClampNeg n.toNatClampNeg)) := va_copied (fun z => .int z) (aC .int) (aC .int) f g h4
  rw [e1] at X' step
  have hl : a < H.size := (Array.getElem?_eq_some_iff.mp hc1).1
  obtain ⟨t, a1, b1⟩ := kk (H.setIfInBounds a (vp_cell (aC .int) (n1, .inl (va_cpy f g sp.toNatClampNeg dp.toNatClampNeg n.toNatClampNeg)))) _ (by simp [Array.getElem?_setIfInBounds, hl]) (by simp) (fun q hq => by simp [Array.getElem?_setIfInBounds, Ne.symm hq]) (fun q hq => by
      obtain ⟨z, -, hz⟩ := List.mem_map.mp hq
      rw [← hz]) _ (by rw [← hT]; rfl) X'
  exact ⟨t, step t a1, b1⟩
/-- a call that is done at once -/
theorem ri_lfW {D : va_G} {aC : FieldType → ClassId} {z0 : Nat} {M : ri_M} (C0 : ri_C D aC M p s m args meth c) {pc : Nat} {x : Instr × Nat × Nat × Int32} (hc : ri_ck M.2.2.1 (pc, x)) {st st' : List Value} {σ σ' : ri_S} (h : ri_lf M x.1 st σ = some (st', σ')) {ls : Array Slot} {H0 : Heap} (hsz : ls.size = M.2.2.2.1) (hfr : 1 ≤ R.frames) (hlo : 64 ≤ R.locals) (hce : cells ≤ R.cells) (hsl : slots ≤ R.slots) (hR : ri_R D aC z0 s σ H) (hS : va_S (fun q => z0 ≤ q) H0 H locs)
    (kk : ∀ (H1 : Heap) (locs1 : List Loc), ri_R D aC z0 s σ' H1 → va_S (fun q => z0 ≤ q) H0 H1 locs1 → W p l e R s m args below meth c H1 locs1 cells slots Q (F0 m x.2.1 ls st')) : W p l e R s m args below meth c H locs cells slots Q (F0 m pc ls st) := by
  obtain ⟨hx, hb, hml, hr, hown, hts, hlocks, hnm, hK⟩ := C0
  obtain ⟨i, np, tg, kv⟩ := x
  obtain ⟨hd, hs⟩ := hc
  dsimp only at hd h kk
  cases i
  case invokespecial k =>
    obtain rfl : np = pc + 3 := by simpa [ri_sp] using hs
    simp only [ri_lf] at h
    split at h
    · rename_i ho
      split at h
      · split at h
        · rename_i q
          cases h
          exact W.objInit hx hb hown (hts _ (rt_o_ok ho)) (hts _ rt_lf_obj.1) (hts _ rt_lf_obj.2) rfl (hsz.trans hml.symm) rfl (ri_dl hd) hfr (by have := lv_room (m := m) (pc := pc) (ls := ls) (rest := []) q; exact Nat.le_trans (Nat.add_le_add_right this 12) (by omega)) (kk H locs hR hS)
        · cases h
      · cases h
    · cases h
  case invokestatic k =>
    obtain rfl : np = pc + 3 := by simpa [ri_sp] using hs
    simp only [ri_lf] at h
    split at h
    · rename_i ho
      split at h
      · split at h
        · rename_i q
          cases h
          exact va_mmax hx hb (hml.trans hsz.symm) hown (hts _ (rt_o_ok ho)) (hts _ rt_lf_max.1) (hts _ rt_lf_max.2.1) (hts _ rt_lf_max.2.2) hfr (by omega) hce hsl (ri_dl hd) (kk H locs hR hS)
        · cases h
      · cases h
    · rename_i ho
      split at h
      · split at h
        · rename_i q
          cases h
          exact va_mmin hx hb (hml.trans hsz.symm) hown (hts _ (rt_o_ok ho)) (hts _ rt_lf_min.1) (hts _ rt_lf_min.2.1) (hts _ rt_lf_min.2.2) hfr (by omega) hce hsl (ri_dl hd) (kk H locs hR hS)
        · cases h
      · cases h
    · rename_i ho
      split at h
      · split at h
        · rename_i n0 f ha0
          split at h
          · rename_i n1 g ha1
            split at h
            · rename_i q
              obtain ⟨⟨q1, q2, q3⟩, q4, q5, q6⟩ := q
              cases h
              have hat0 := hR.2.2 _ _ ha0
              have hat1 := hR.2.2 _ _ ha1
              refine ri_cpyW hx hb (hml.trans hsz.symm) hown (hts _ (rt_o_ok ho)) (hts _ rt_lf_cpy.1) (hts _ rt_lf_cpy.2.1) (hts _ rt_lf_cpy.2.2) hK hat0.2 hat1.2 q1 q2 q3 q4 q5 hfr ?_ (ri_dl hd) (fun H1 LL e1 e2 e3 e4 => ?_)
              · have : nativeFrameWords "java/lang/System" "arraycopy" 5 ≤ 40 := by decide +kernel
                omega
              · refine kk H1 _ (hR.set (e := .inl (.int, n1, .inl _)) ⟨hat1.1, e1⟩ e2 e3) ⟨by rw [e2]; exact hS.1, fun q h1 h2 => ?_, fun q hq => ?_⟩
                · rw [e3 q (fun e => h2 (by rw [e]; exact hat1.1))]
                  exact hS.2.1 q h1 h2
                · rcases List.mem_append.mp hq with h1 | h1
                  · exact hS.2.2 q h1
                  · rw [e4 q h1]; exact hat1.1
            · cases h
          · cases h
        · cases h
      · cases h
    · cases h
  all_goals cases h
end RIX
set_option maxHeartbeats 4000000 in
set_option maxRecDepth 100000 in
theorem ri_sound {D : va_G} {aC : FieldType → ClassId} {z0 : Nat} {l : Launch} : ∀ (n d : Nat) (M : ri_M) (F : ri_F) (σ σ' : ri_S) (v : Option Value), ri_run n d M F σ = some (v, σ') → (∀ x ∈ M.2.2.2.2.2, ri_ck M.2.2.1 x) →
    ∀ {p : Program} {e : Env} {R : Room} {s : State} {m : MethodId} {args : Array Value} {below : List Frame} {meth : Method} {c : Code} {H : Heap} {locs : List Loc} {cells slots : Nat} {Q : State → Prop} {ls : Array Slot}, ri_C D aC M p s m args meth c → ri_R D aC z0 s σ H → va_S (fun q => z0 ≤ q) s.heap H locs → ri_H ls F.2.1 → F.2.1.length = M.2.2.2.1 → d ≤ R.frames → 64 * d ≤ R.locals → cells + (σ'.2.1 - σ.2.1) ≤ R.cells → slots + (σ'.2.2 - σ.2.2) ≤ R.slots →
    (∀ (H1 : Heap) (locs1 : List Loc) (ls1 : Array Slot) (pc1 : Nat) (i : Instr) (st1 : List Value), decode M.2.2.1 pc1 = .ok (i, 1) → ri_rt M i st1 = some v → ri_R D aC z0 s σ' H1 → va_S (fun q => z0 ≤ q) s.heap H1 locs1 → W p l e R s m args below meth c H1 locs1 (cells + (σ'.2.1 - σ.2.1)) (slots + (σ'.2.2 - σ.2.2)) Q (F0 m pc1 ls1 st1)) →
    W p l e R s m args below meth c H locs cells slots Q (F0 m F.1 ls F.2.2) := by
  intro n
  induction n with
  | zero => intro d M F σ σ' v h; cases h
  | succ n ih =>
    intro d M F σ σ' v h okM p e R s m args below meth c H locs cells slots Q ls C0 hR hS hl hlen hfr hlo hce hsl hret
    obtain ⟨pc, L, st⟩ := F
    unfold ri_run at h
    dsimp only at h hl hlen ⊢
    split at h
    · cases h
    · rename_i x hfind
      have hck := okM _ (ri_find_mem hfind)
      split at h
      · rename_i v1 hrt
        cases h
        refine W.cs ?_ ?_ (hret H locs ls pc x.1 st (ri_rt_np hrt hck) hrt hR hS) <;> omega
      · split at h
        · rename_i M' as r hcl
          split at h
          · rename_i d' hble
            split at h
            · cases h
            · rename_i v1 σ1 hrun
              have m1 := ri_mono _ _ _ _ _ _ _ hrun
              have m2 := ri_mono _ _ _ _ _ _ _ h
              have okM' : ri_okM M' := ri_cl_ok hcl
              have hM : Met l M'.2.1 (ri_ws M') { frames := d', cells := σ1.2.1 - σ.2.1, slots := σ1.2.2 - σ.2.2, locals := 64 * d' } (ri_Pc D aC z0 as σ) (ri_Qc D aC z0 v1 σ1) (σ1.2.1 - σ.2.1) (σ1.2.2 - σ.2.2) (fun q => z0 ≤ q) := by
                refine Met.ofW (cc := M'.2.2.1) (maxL := M'.2.2.2.1) (ret := M'.2.2.2.2.1) okM'.2.2.1 rfl ?_
                intro p e s m args below meth c s₁ B hml hv
                obtain ⟨rfl, hR1, hK1⟩ := hv
                have hts : ∀ w ∈ rt_tbl, w.before _ s = true := fun w hw => atoms_spec (ws := ri_ws M') B.pre w (List.mem_cons_of_mem _ hw)
                have hown : s.vm.findClass (rt_cn M'.1) = some m.cls := by rw [← okM'.2.1]; exact findClass_of_methodNamed B.named
                have C1 : ri_C D aC M' p s m as.toArray meth c := ⟨B.exec, B.bytes, hml, B.returns, hown, hts, B.notSynchronized, fun q => (name_of_methodNamed B.named B.method).1.trans q, hK1⟩
                rw [lg_entry_eq]
                have hle : (ri_ent as).length ≤ M'.2.2.2.1 := Nat.le_of_ble_eq_true hble
                refine ih d' M' (0, ri_loc M'.2.2.2.1 as, []) σ σ1 v1 hrun okM'.1 C1 hR1 va_S.rf (ri_entry as hle) ?_ (Nat.le_refl _) (Nat.le_refl _) (by show 0 + _ ≤ _; rw [Nat.zero_add]; exact Nat.le_refl _) (by show 0 + _ ≤ _; rw [Nat.zero_add]; exact Nat.le_refl _) ?_
                · unfold ri_loc
                  rw [List.length_append, List.length_replicate]
                  omega
                · intro H1 locs1 ls1 pc1 i st1 q1 q2 q3 q4
                  rw [Nat.zero_add, Nat.zero_add]
                  exact ri_retW C1 q1 q2 (fun t ht hW => ⟨rfl, by rw [ht]; exact q3.moved hW.alike, q4.F ht⟩) q4.2.2
              obtain ⟨e3, hrun2⟩ := ri_clW (p := p) (e := e) (below := below) (cells := cells) (slots := slots) (locs := locs) C0 hck hcl (ls := ls) (by rw [hl.1, hlen]) hR hM (by dsimp only; omega) (by dsimp only; have := okM'.2.2.2.2; omega) (by dsimp only; omega)
              rw [e3] at h
              refine ri_goOn hrun2 hS (fun H1 locs1 k1 k2 => ?_)
              dsimp only
              refine ih (d' + 1) M _ σ1 σ' v h okM C0 k1 k2 hl hlen hfr hlo (by omega) (by omega) ?_
              intro H2 locs2 ls2 pc2 i2 st2 q1 q2 q3 q4
              refine W.cs ?_ ?_ (hret H2 locs2 ls2 pc2 i2 st2 q1 q2 q3 q4) <;> omega
          · cases h
        · split at h
          · rename_i st' σ1 hlf
            split at h
            · cases h
            · rename_i d'
              have e0 := ri_lf_same hlf
              have e1 : σ1.2.1 = σ.2.1 := by rw [e0]
              have e2 : σ1.2.2 = σ.2.2 := by rw [e0]
              refine ri_lfW C0 hck hlf (by rw [hl.1, hlen]) (by omega) (by omega) (by omega) (by omega) hR hS (fun H1 locs1 k1 k2 => ?_)
              refine ih (d' + 1) M _ σ1 σ' v h okM C0 k1 k2 hl hlen hfr hlo (by omega) (by omega) ?_
              intro H2 locs2 ls2 pc2 i2 st2 q1 q2 q3 q4
              refine W.cs ?_ ?_ (hret H2 locs2 ls2 pc2 i2 st2 q1 q2 q3 q4) <;> omega
          · split at h
            · rename_i F' hpx
              obtain ⟨hx, hb, hml, hr, hown, hts, hlocks, hnm, hK⟩ := id C0
              refine ri_pxW hx hb hown (fun k v q => hts _ (rt_i_ok q)) (fun k v q => hts _ (rt_l_ok q)) hck hpx hl (fun ls' hl' => ?_)
              exact ih d M F' σ σ' v h okM C0 hR hS hl' (by rw [ri_px_len hpx]; exact hlen) hfr hlo hce hsl hret
            · split at h
              · rename_i st' σ1 hhx
                have m1 := ri_hx_mono hhx
                have m2 := ri_mono _ _ _ _ _ _ _ h
                refine ri_hxW C0 hck hhx hR hS (by omega) (by omega) (fun H1 locs1 k1 k2 => ?_)
                refine ih d M _ σ1 σ' v h okM C0 k1 k2 hl hlen hfr hlo (by omega) (by omega) ?_
                intro H2 locs2 ls2 pc2 i2 st2 q1 q2 q3 q4
                refine W.cs ?_ ?_ (hret H2 locs2 ls2 pc2 i2 st2 q1 q2 q3 q4) <;> omega
              · cases h
