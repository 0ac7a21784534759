/-! THE REFERENCE: finds, the walk over a record. -/
theorem mo_ins_eq {a b : Nat → Int32} {j : Nat} (h : ∀ l, l < j → a l = b l) : mo_ins a j = mo_ins b j := by
  cases j with
  | zero => rfl
  | succ j => exact h j (Nat.lt_succ_self j)
theorem nI_nm1 {p : Nat} (h : p < 2 ^ 31) : ¬ nI p = -1 := by
  intro q
  have := nI_pos' h
  rw [q] at this
  exact absurd this (by decide)
/-- finds comes on entry κ of L, cnt entries ahead of it -/
def fi_early (o : Nat) (A : Nat → Nat → Int32) (I : Nat → Int32) (σ0 : ri_S) (Q : Option Value → ri_S → Prop) (k : Int32) (cnt : Nat) (L : List fi_E) : Prop := ∀ (κ : Nat) (en : fi_E), L[κ]? = some en → k = nI (cnt + κ) → ∀ (at' : Nat → Int32) (σ' : ri_S), mo_W o (va_up A 9 at') (va_up (va_up (va_up (va_up I 24 (nI (cnt + κ))) 17 en.1) 18 en.2.1) 19 en.2.2) σ0 σ' → Q (some (.int 1)) σ'
/-- finds has passed all of L, and stands at i with nothing further -/
def fi_past (d o : Nat) (A : Nat → Nat → Int32) (I : Nat → Int32) (σ0 : ri_S) (Q : Option Value → ri_S → Prop) (k rc i : Int32) (cnt : Nat) (L : List fi_E) (ag : (Nat → Int32) → Prop) : Prop := (∀ κ, κ < L.length → ¬ k = nI (cnt + κ)) → ∀ (at' : Nat → Int32) (rep' : Int32) (σ' : ri_S), ag at' → mo_W o (va_up A 9 at') (va_up I 24 (nI (cnt + L.length))) σ0 σ' → ev_W (d + 2) mMo_finds (147, [some (.ref o), some (.int k), some (.int rc), some (.int i), some (.int rep'), some (.int 1), some (.int (-1))], []) σ' Q
section FI2
variable {d o : Nat} {A : Nat → Nat → Int32} {I : Nat → Int32} {σ0 : ri_S} {Q : Option Value → ri_S → Prop}
theorem fi_early.left {k : Int32} {cnt : Nat} {L R : List fi_E} (h : fi_early o A I σ0 Q k cnt (L ++ R)) : fi_early o A I σ0 Q k cnt L := by
  intro κ en hκ
  exact h κ en (by rw [List.getElem?_append_left (List.getElem?_eq_some_iff.mp hκ).1]; exact hκ)
theorem fi_early.right {k : Int32} {cnt : Nat} {L R : List fi_E} (h : fi_early o A I σ0 Q k cnt (L ++ R)) : fi_early o A I σ0 Q k (cnt + L.length) R := by
  intro κ en hκ hk at' σ' hW
  refine h (L.length + κ) en (by rw [List.getElem?_append_right (by omega), show L.length + κ - L.length = κ by omega]; exact hκ) (by rw [hk, Nat.add_assoc]) at' σ' (by rw [← Nat.add_assoc]; exact hW)
theorem fi_past.right {k rc i : Int32} {cnt : Nat} {L R : List fi_E} {ag ag' : (Nat → Int32) → Prop} (h : fi_past d o A I σ0 Q k rc i cnt (L ++ R) ag) (hL : ∀ κ, κ < L.length → ¬ k = nI (cnt + κ)) (hag : ∀ a, ag' a → ag a) : fi_past d o A I σ0 Q k rc i (cnt + L.length) R ag' := by
  intro hall at' rep' σ' ha hW
  refine h (fun κ hκ => ?_) at' rep' σ' (hag _ ha) (by rw [List.length_append, ← Nat.add_assoc]; exact hW)
  rw [List.length_append] at hκ
  rcases Nat.lt_or_ge κ L.length with z | z
  · exact hL κ z
  · have := hall (κ - L.length) (by omega)
    rw [show cnt + L.length + (κ - L.length) = cnt + κ by omega] at this
    exact this
/-- an occurrence p of the way's field j is passed, or comes on its entry -/
def fi_EK (d o : Nat) (A : Nat → Nat → Int32) (I : Nat → Int32) (σ0 : ri_S) (Q : Option Value → ri_S → Prop) (k rc : Int32) (n e t j : Nat) : Prop := ∀ (p : Nat) (at0 : Nat → Int32) (rep : Int32) (cnt : Nat) (σ : ri_S) (x : Option Value), p < e → at0 j = nI p → mo_W o (va_up A 9 (mo_dp (A 4) (A 6) (A 8) e t at0 j).1) (va_up I 24 (nI cnt)) σ0 σ →
  fi_early o A I σ0 Q k cnt (fi_ent (A 4) (A 6) (A 5) (A 8) (fi_D A n) (fi_R A n) e t j p rep) → fi_past d o A I σ0 Q k rc (nI j) cnt (fi_ent (A 4) (A 6) (A 5) (A 8) (fi_D A n) (fi_R A n) e t j p rep) (fun at' => ∀ l, l ≤ j → at' l = at0 l) →
  ev_W (d + 2) mMo_finds (60, [some (.ref o), some (.int k), some (.int rc), some (.int (nI (mo_dp (A 4) (A 6) (A 8) e t at0 j).2)), some (.int rep), some (.int 1), x], []) σ Q
/-- an occurrence and its further ones -/
def fi_SK (d o : Nat) (A : Nat → Nat → Int32) (I : Nat → Int32) (σ0 : ri_S) (Q : Option Value → ri_S → Prop) (k rc : Int32) (n e t j : Nat) : Prop := ∀ (u p : Nat) (at0 : Nat → Int32) (rep : Int32) (cnt : Nat) (σ : ri_S) (x : Option Value), e ≤ p + u → p < e → at0 j = nI p → mo_W o (va_up A 9 (mo_dp (A 4) (A 6) (A 8) e t at0 j).1) (va_up I 24 (nI cnt)) σ0 σ →
  fi_early o A I σ0 Q k cnt (fi_sib (fi_nx (A 4) (A 6) (A 8 j) (mo_ins at0 j) e) (fi_ent (A 4) (A 6) (A 5) (A 8) (fi_D A n) (fi_R A n) e t j) (fi_R A n j) u p rep) → fi_past d o A I σ0 Q k rc (nI j - 1) cnt (fi_sib (fi_nx (A 4) (A 6) (A 8 j) (mo_ins at0 j) e) (fi_ent (A 4) (A 6) (A 5) (A 8) (fi_D A n) (fi_R A n) e t j) (fi_R A n j) u p rep) (fun at' => ∀ l, l < j → at' l = at0 l) →
  ev_W (d + 2) mMo_finds (60, [some (.ref o), some (.int k), some (.int rc), some (.int (nI (mo_dp (A 4) (A 6) (A 8) e t at0 j).2)), some (.int rep), some (.int 1), x], []) σ Q
set_option maxRecDepth 100000 in
set_option maxHeartbeats 2000000 in
theorem fi_sk_of {k rc : Int32} {n s e u0 t j : Nat} (hn : n ≤ 48) (hup : mo_up (A 0) n) (hs : I 16 = nI s) (hs2 : s ≤ 16) (hway : ∀ j, j < s → ∃ w, w < n ∧ A 8 j = nI w) (he2 : e ≤ 2048) (hrc : rc + 1 = nI u0) (hu0 : u0 < 129) (he : A 7 u0 = nI e) (hj : j + 1 + t = s) (hE : fi_EK d o A I σ0 Q k rc n e t j) : fi_SK d o A I σ0 Q k rc n e t j := by
  intro u
  have hj2 : j < s := by omega
  induction u with
  | zero => intro p at0 rep cnt σ x h1 h2; omega
  | succ u ihu =>
    intro p at0 rep cnt σ x hu hpe hp hW early done
    generalize hnx : fi_nx (A 4) (A 6) (A 8 j) (mo_ins at0 j) e = NX at early done
    have eL : fi_sib NX (fi_ent (A 4) (A 6) (A 5) (A 8) (fi_D A n) (fi_R A n) e t j) (fi_R A n j) (u + 1) p rep = fi_ent (A 4) (A 6) (A 5) (A 8) (fi_D A n) (fi_R A n) e t j p rep ++ (if NX (p + 1) = -1 then [] else fi_sib NX (fi_ent (A 4) (A 6) (A 5) (A 8) (fi_D A n) (fi_R A n) e t j) (fi_R A n j) u (NX (p + 1)).toNatClampNeg (fi_R A n j)) := rfl
    rw [eL] at early done
    generalize hEn : fi_ent (A 4) (A 6) (A 5) (A 8) (fi_D A n) (fi_R A n) e t j p rep = EN at early done
    refine hE p at0 rep cnt σ x hpe hp hW (by rw [hEn]; exact early.left) ?_
    rw [hEn]
    intro hall at' rep' σ' hat hW'
    have ein : mo_ins at' j = mo_ins at0 j := mo_ins_eq (fun l hl => hat l (by omega))
    refine fi_up (I := I) (J := va_up I 24 (nI (cnt + EN.length))) rfl hn hup hs hs2 hj2 (hway j hj2) ((hat j (Nat.le_refl _)).trans hp) hpe he2 hrc hu0 he hW' (fun z => ?_) (fun p' σ2 z z1 z2 hW2 => ?_)
    · rw [ein, hnx] at z
      rw [if_pos z, List.append_nil] at done
      exact done hall at' rep' σ' (fun l hl => hat l (by omega)) hW'
    · rw [ein, hnx] at z
      have ein2 : mo_ins (upd at' j (nI p')) j = mo_ins at0 j := mo_ins_eq (fun l hl => (pk_un (by omega)).trans (hat l (by omega)))
      rw [if_neg (by rw [z]; exact nI_nm1 (by omega)), z, nI_clamp (by omega)] at early done
      rw [show s - 1 - j = t by omega] at hW2 ⊢
      refine ihu p' (upd at' j (nI p')) (fi_R A n j) (cnt + EN.length) σ2 _ (by omega) z2 pk_us hW2 ?_ ?_
      · rw [ein2, hnx]
        exact early.right
      · rw [ein2, hnx]
        exact done.right hall (fun a ha l hl => (ha l hl).trans ((pk_un (by omega)).trans (hat l (by omega))))
set_option maxRecDepth 100000 in
set_option maxHeartbeats 2000000 in
theorem fi_ek_0 {k rc : Int32} {n s e j : Nat} (hn : n ≤ 48) (hup : mo_up (A 0) n) (hs : I 16 = nI s) (hs2 : s ≤ 16) (hway : ∀ j, j < s → ∃ w, w < n ∧ A 8 j = nI w) (he2 : e ≤ 2048) (hj : j + 1 = s) : fi_EK d o A I σ0 Q k rc n e 0 j := by
  intro p at0 rep cnt σ x hpe hp hW early past
  refine fi_here (at_ := at0) (p := p) (v := A 5 p) hn hup hs hs2 (by omega) (hway j (by omega)) hp (by omega) (by rw [if_pos hj]) hW (fun q σ' h' => early 0 (rep, fi_D A n j, A 5 p) rfl q at0 σ' h') (fun q σ' h' => past (fun κ hκ => ?_) at0 rep σ' (fun _ _ => rfl) h') x
  have : κ = 0 := by
    have h9 : κ < 1 := hκ
    omega
  rw [this]; exact q
set_option maxRecDepth 100000 in
set_option maxHeartbeats 2000000 in
theorem fi_ek_s {k rc : Int32} {n s e t j : Nat} (hn : n ≤ 48) (hup : mo_up (A 0) n) (hs : I 16 = nI s) (hs2 : s ≤ 16) (hway : ∀ j, j < s → ∃ w, w < n ∧ A 8 j = nI w) (he2 : e ≤ 2048) (hj : j + 1 + (t + 1) = s) (hS : fi_SK d o A I σ0 Q k rc n e t (j + 1)) : fi_EK d o A I σ0 Q k rc n e (t + 1) j := by
  intro p at0 rep cnt σ x hpe hp hW early past
  have hp31 : p < 2 ^ 31 := by omega
  have eD : mo_dp (A 4) (A 6) (A 8) e (t + 1) at0 j = if fi_nx (A 4) (A 6) (A 8 (j + 1)) (nI p) e (p + 1) = -1 then (upd at0 (j + 1) (-1), j) else mo_dp (A 4) (A 6) (A 8) e t (upd at0 (j + 1) (fi_nx (A 4) (A 6) (A 8 (j + 1)) (nI p) e (p + 1))) (j + 1) := by
    show (if mo_nx _ _ _ _ _ _ = -1 then _ else _) = _
    rw [hp, nI_clamp hp31]
    rfl
  have eE : fi_ent (A 4) (A 6) (A 5) (A 8) (fi_D A n) (fi_R A n) e (t + 1) j p rep = if fi_nx (A 4) (A 6) (A 8 (j + 1)) (nI p) e (p + 1) = -1 then [(rep, fi_D A n j, 0)] else fi_sib (fi_nx (A 4) (A 6) (A 8 (j + 1)) (nI p) e) (fi_ent (A 4) (A 6) (A 5) (A 8) (fi_D A n) (fi_R A n) e t (j + 1)) (fi_R A n (j + 1)) e (fi_nx (A 4) (A 6) (A 8 (j + 1)) (nI p) e (p + 1)).toNatClampNeg rep := rfl
  rw [eE] at early past
  rw [eD] at hW ⊢
  have hor := mo_nx_or (A 4) (A 6) (A 8 (j + 1)) (nI p) (e - (p + 1)) (p + 1)
  change fi_nx (A 4) (A 6) (A 8 (j + 1)) (nI p) e (p + 1) = -1 ∨ ∃ q, p + 1 ≤ q ∧ q < p + 1 + (e - (p + 1)) ∧ fi_nx (A 4) (A 6) (A 8 (j + 1)) (nI p) e (p + 1) = nI q ∧ A 4 q = A 8 (j + 1) ∧ A 6 q = nI p at hor
  by_cases hx : fi_nx (A 4) (A 6) (A 8 (j + 1)) (nI p) e (p + 1) = -1
  · rw [if_pos hx] at early past hW ⊢
    refine fi_here (at_ := upd at0 (j + 1) (-1)) (p := p) (v := 0) hn hup hs hs2 (by omega) (hway j (by omega)) ((pk_un (by omega)).trans hp) (by omega) (by rw [if_neg (by omega)]) hW (fun q σ' h' => early 0 (rep, fi_D A n j, 0) rfl q _ σ' h') (fun q σ' h' => past (fun κ hκ => ?_) _ rep σ' (fun l hl => pk_un (by omega)) h') x
    have : κ = 0 := by
      have h9 : κ < 1 := hκ
      omega
    rw [this]; exact q
  · rw [if_neg hx] at early past hW ⊢
    obtain ⟨c, c1, c2, c3, -⟩ := hor.resolve_left hx
    rw [c3] at hW ⊢
    rw [c3, nI_clamp (by omega)] at early past
    have ein : mo_ins (upd at0 (j + 1) (nI c)) (j + 1) = nI p := (pk_un (by omega)).trans hp
    refine hS e c (upd at0 (j + 1) (nI c)) rep cnt σ x (by omega) (by omega) pk_us hW ?_ ?_
    · rw [ein]; exact early
    · rw [ein]
      intro hall at' rep' σ' hat hW'
      rw [nI_pred j]
      exact past hall at' rep' σ' (fun l hl => (hat l (by omega)).trans (pk_un (by omega))) hW'
end FI2
