/-! A RUN OF THE SMALL MACHINE IS ONE OF THE MACHINE. What part 03 says of the tables: rt_c_ok, rt_o_ok, rt_sd_ok, rt_good. -/
theorem ri_hx_mono {M : ri_M} {i : Instr} {st st' : List Value} {σ σ' : ri_S} (h : ri_hx M i st σ = some (st', σ')) : σ.2.1 ≤ σ'.2.1 ∧ σ.2.2 ≤ σ'.2.2 := by
  unfold ri_hx at h
  (repeat' split at h) <;> first | (cases h; done) | (cases h; exact ⟨Nat.le_refl _, Nat.le_refl _⟩) | (cases h; exact ⟨by dsimp only; omega, by dsimp only; omega⟩)
theorem ri_lf_same {M : ri_M} {i : Instr} {st st' : List Value} {σ σ' : ri_S} (h : ri_lf M i st σ = some (st', σ')) : σ'.2 = σ.2 := by
  unfold ri_lf at h
  (repeat' split at h) <;> first | (cases h; done) | (cases h; rfl)
theorem ri_mono : ∀ (n d : Nat) (M : ri_M) (F : ri_F) (σ σ' : ri_S) (v : Option Value), ri_run n d M F σ = some (v, σ') → σ.2.1 ≤ σ'.2.1 ∧ σ.2.2 ≤ σ'.2.2 := by
  intro n
  induction n with
  | zero => intro d M F σ σ' v h; cases h
  | succ n ih =>
    intro d M F σ σ' v h
    unfold ri_run at h
    split at h
    · cases h
    · split at h
      · cases h; exact ⟨Nat.le_refl _, Nat.le_refl _⟩
      · split at h
        · split at h
          · split at h
            · cases h
            · rename_i h1
              have g1 := ih _ _ _ _ _ _ h1
              have g2 := ih _ _ _ _ _ _ h
              exact ⟨Nat.le_trans g1.1 g2.1, Nat.le_trans g1.2 g2.2⟩
          · cases h
        · split at h
          · rename_i h1
            split at h
            · cases h
            · have g1 := ri_lf_same h1
              have g2 := ih _ _ _ _ _ _ h
              rw [g1] at g2
              exact g2
          · split at h
            · exact ih _ _ _ _ _ _ h
            · split at h
              · rename_i h1
                have g1 := ri_hx_mono h1
                have g2 := ih _ _ _ _ _ _ h
                exact ⟨Nat.le_trans g1.1 g2.1, Nat.le_trans g1.2 g2.2⟩
              · cases h
def ri_ws (M : ri_M) : List Cond := Cond.code M.2.1 M.2.2.1 M.2.2.2.1 M.2.2.2.2.1 :: rt_tbl
theorem ri_good (M M' : ri_M) (h : Cond.code M'.2.1 M'.2.2.1 M'.2.2.2.1 M'.2.2.2.2.1 ∈ rt_tbl) : GoodIn (ri_ws M) (ri_ws M') := by
  intro w hw
  rcases List.mem_cons.mp hw with rfl | hw
  · exact ⟨List.mem_cons_of_mem _ h, rt_good _ h⟩
  · exact ⟨List.mem_cons_of_mem _ hw, rt_good _ hw⟩
theorem ri_K.same {D : va_G} {aC : FieldType → ClassId} {u U : State} (h : u.vm = U.vm) (hK : ri_K D aC u) : ri_K D aC U := ⟨va_K.moved (by rw [h]; exact Vm.Alike.refl _) hK.1, fun w hw => va_Nw.same (rt_sd_ok w hw).1 h (hK.2.1 w hw), hK.2.2.moved (by rw [h]; exact Vm.Alike.refl _)⟩
theorem ri_K.warm {D : va_G} {aC : FieldType → ClassId} {u U : State} (h : u.WarmedH U.vm) (hK : ri_K D aC u) : ri_K D aC U := ⟨va_K.moved h.alike hK.1, fun w hw => (rt_sd_ok w hw).2 u U h (hK.2.1 w hw), hK.2.2.moved h.alike⟩
def ri_Pc (D : va_G) (aC : FieldType → ClassId) (z0 : Nat) (as : List Value) (σ : ri_S) : Array Value → State → Prop := va_Pc as (fun U => ri_R D aC z0 U σ U.heap ∧ ri_K D aC U)
def ri_Qc (D : va_G) (aC : FieldType → ClassId) (z0 : Nat) (v : Option Value) (σ : ri_S) : Array Value → State → Outcome → State → Prop := fun _ st oc t => oc = .returned v ∧ ri_R D aC z0 t σ t.heap ∧ va_F (fun q => z0 ≤ q) st t
theorem ri_blind {D : va_G} {aC : FieldType → ClassId} {z0 : Nat} {as : List Value} {σ : ri_S} : FrameBlind (ri_Pc D aC z0 as σ) := by
  intro a U g mk ⟨h1, h2, h3⟩
  exact ⟨h1, h2.moved (U := U.calling g mk a) (Vm.Alike.refl U.vm), ri_K.same (u := U) (U := U.calling g mk a) rfl h3⟩
section RIR
variable {p : Program} {l : Launch} {e : Env} {R : Room} {s : State} {m : MethodId} {args : Array Value} {below : List Frame} {meth : Method} {c : Code} {H : Heap} {locs : List Loc} {cells slots : Nat} {Q : State → Prop}
/-- a return -/
theorem ri_retW {D : va_G} {aC : FieldType → ClassId} {M : ri_M} (C0 : ri_C D aC M p s m args meth c) {Qc : Array Value → State → Outcome → State → Prop} {free : Addr → Prop} {pc : Nat} {i : Instr} {st : List Value} {ls : Array Slot} {v : Option Value} (hd : decode M.2.2.1 pc = .ok (i, 1)) (h : ri_rt M i st = some v)
    (hq : ∀ t : State, t.heap = H → s.WarmedH t.vm → Qc args s (.returned v) t) (hf : ∀ q ∈ locs, free q.base) : W p l e R s m args below meth c H locs cells slots (MQ below Qc args s cells slots free) (F0 m pc ls st) := by
  obtain ⟨hx, hb, hml, hr, hown, hts, hlocks, hnm, hK⟩ := C0
  cases i
  case ireturn =>
    simp only [ri_rt] at h
    split at h
    · split at h
      · rename_i hm
        cases h
        rw [hm] at hr
        exact W.iret hx hb hr hq hf hd hlocks
      · rename_i hm
        rw [hm] at hr
        split at h
        · rename_i q
          cases h
          exact W.zret hx hb hr (by rcases q with rfl | rfl <;> rfl) hq hf hd hlocks
        · cases h
      · cases h
    · cases h
  case lreturn =>
    simp only [ri_rt] at h
    split at h
    · split at h
      · rename_i hm
        cases h
        rw [hm] at hr
        exact W.lret hx hb hr hq hf hd hlocks
      · cases h
    · cases h
  case areturn =>
    simp only [ri_rt] at h
    split at h
    · split at h
      · rename_i t hm
        cases h
        rw [hm] at hr
        exact W.aret hx hb hr (Or.inr ⟨_, rfl⟩) (Or.inr ⟨_, rfl⟩) hq hf hd hlocks
      · rename_i t hm
        cases h
        rw [hm] at hr
        exact W.aret hx hb hr (Or.inl ⟨_, rfl⟩) (Or.inr ⟨_, rfl⟩) hq hf hd hlocks
      · cases h
    · cases h
  case return_ =>
    simp only [ri_rt] at h
    split at h
    · split at h
      · rename_i hm
        cases h
        rw [hm] at hr
        exact W.vret hx hb hr hq hf hd hlocks
      · cases h
    · cases h
  all_goals cases h
theorem ri_rt_np {M : ri_M} {pc : Nat} {x : Instr × Nat × Nat × Int32} {st : List Value} {v : Option Value} (h : ri_rt M x.1 st = some v) (hc : ri_ck M.2.2.1 (pc, x)) : decode M.2.2.1 pc = .ok (x.1, 1) := by
  obtain ⟨i, np, tg, kv⟩ := x
  obtain ⟨hd, hs⟩ := hc
  dsimp only at hd h ⊢
  cases i
  case ireturn => obtain rfl : np = pc + 1 := by simpa [ri_sp] using hs
                  exact ri_dl hd
  case lreturn => obtain rfl : np = pc + 1 := by simpa [ri_sp] using hs
                  exact ri_dl hd
  case areturn => obtain rfl : np = pc + 1 := by simpa [ri_sp] using hs
                  exact ri_dl hd
  case return_ => obtain rfl : np = pc + 1 := by simpa [ri_sp] using hs
                  exact ri_dl hd
  all_goals cases h
/-- behind a call -/
theorem ri_goOn {D : va_G} {aC : FieldType → ClassId} {z0 : Nat} {σ1 : ri_S} {v : Option Value} {a : Array Value} {pc mc ms : Nat} {ls : Array Slot} {st0 rest : List Value} {H0 : Heap}
    (hr : va_Run p l e R s m args below meth c H locs cells slots mc ms (F0 m pc ls st0) rest (ri_Qc D aC z0 v σ1 a) (fun q => z0 ≤ q)) (hS : va_S (fun q => z0 ≤ q) H0 H locs)
    (kk : ∀ (H1 : Heap) (locs1 : List Loc), ri_R D aC z0 s σ1 H1 → va_S (fun q => z0 ≤ q) H0 H1 locs1 → W p l e R s m args below meth c H1 locs1 (cells + mc) (slots + ms) Q (F0 m (pc + 3) ls (v.toList ++ rest))) : W p l e R s m args below meth c H locs cells slots Q (F0 m pc ls st0) := by
  intro T hT X
  obtain ⟨v', st₀, t, T', L, h0, X', hL, e1, e2, ⟨hv, hR1, hz, hk⟩, st⟩ := hr T hT X
  cases hv
  rw [h0] at hz hk
  have hal : t.vm.Alike s.vm := by rw [← e2]; exact X'.warmed.alike.symm
  obtain ⟨t2, a1, b1⟩ := kk T'.heap (locs ++ L) (by rw [e1]; exact hR1.moved hal)
    ⟨Nat.le_trans hS.1 (by rw [e1]; exact hz), fun q h1 h2 => by rw [e1, hk q (Nat.lt_of_lt_of_le h1 hS.1) h2]; exact hS.2.1 q h1 h2, fun q hq => by
      rcases List.mem_append.mp hq with h | h
      · exact hS.2.2 q h
      · exact hL q h⟩ T' rfl X'
  exact ⟨t2, st t2 a1, b1⟩
end RIR
