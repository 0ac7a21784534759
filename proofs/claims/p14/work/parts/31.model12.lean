/-! THE REFERENCE: finds, entries, entry. -/
/-- the entries of m records from r on; record r is B r .. B (r + 1) - 1 -/
def fi_from (A : Nat → Nat → Int32) (n s : Nat) (B : Nat → Nat) : Nat → Nat → List fi_E
  | 0, _ => []
  | m + 1, r => fi_rec (A 4) (A 6) (A 5) (A 8) (fi_D A n) (fi_R A n) s (B r) (B (r + 1)) ++ fi_from A n s B m (r + 1)
section FI3
variable {d o : Nat} {A : Nat → Nat → Int32} {I : Nat → Int32} {σ0 : ri_S} {Q : Option Value → ri_S → Prop}
theorem fi_all {k rc : Int32} {n s e u0 : Nat} (hn : n ≤ 48) (hup : mo_up (A 0) n) (hs : I 16 = nI s) (hs2 : s ≤ 16) (hway : ∀ j, j < s → ∃ w, w < n ∧ A 8 j = nI w) (he2 : e ≤ 2048) (hrc : rc + 1 = nI u0) (hu0 : u0 < 129) (he : A 7 u0 = nI e) : ∀ (t j : Nat), j + 1 + t = s → fi_SK d o A I σ0 Q k rc n e t j := by
  intro t
  induction t with
  | zero => intro j hj; exact fi_sk_of hn hup hs hs2 hway he2 hrc hu0 he hj (fi_ek_0 hn hup hs hs2 hway he2 hj)
  | succ t ih => intro j hj; exact fi_sk_of hn hup hs hs2 hway he2 hrc hu0 he hj (fi_ek_s hn hup hs hs2 hway he2 hj (ih (j + 1) (by omega)))
set_option maxRecDepth 100000 in
set_option maxHeartbeats 2000000 in
theorem fi_loop {k : Int32} {n s N : Nat} {B : Nat → Nat} (hn : n ≤ 48) (hup : mo_up (A 0) n) (hs : I 16 = nI s) (hs0 : 0 < s) (hs2 : s ≤ 16) (hway : ∀ j, j < s → ∃ w, w < n ∧ A 8 j = nI w) (hN : I 11 = nI N) (hN2 : N ≤ 128) (hB : ∀ r, r ≤ N → A 7 r = nI (B r) ∧ B r ≤ 2048) :
    ∀ (m r cnt : Nat) (at0 : Nat → Int32) (σ : ri_S) (x3 x4 x5 x6 : Option Value), r + m = N → mo_W o (va_up A 9 at0) (va_up I 24 (nI cnt)) σ0 σ →
      fi_early o A I σ0 Q k cnt (fi_from A n s B m r) →
      ((∀ κ, κ < (fi_from A n s B m r).length → ¬ k = nI (cnt + κ)) → ∀ (at' : Nat → Int32) (σ' : ri_S), mo_W o (va_up A 9 at') (va_up I 24 (nI (cnt + (fi_from A n s B m r).length))) σ0 σ' → Q (some (.int 0)) σ') →
      ev_W (d + 2) mMo_finds (7, [some (.ref o), some (.int k), some (.int (nI r)), x3, x4, x5, x6], []) σ Q := by
  intro m
  induction m with
  | zero =>
    intro r cnt at0 σ x3 x4 x5 x6 hr hW early done
    obtain rfl : r = N := by omega
    refine g_get rfl rfl rfl hW.1.1 rfl ?_
    refine g_br rfl rfl rfl rfl rfl rfl (fun h1 => ?_) (fun h1 => absurd (by show I 11 ≤ _; rw [hN]; exact nI_le (Nat.le_refl _) (by omega)) h1)
    exact g_rt rfl rfl rfl (done (fun κ hκ => absurd hκ (Nat.not_lt_zero _)) at0 σ hW)
  | succ m ih =>
    intro r cnt at0 σ x3 x4 x5 x6 hr hW early done
    obtain ⟨hb1, hb2⟩ := hB r (by omega)
    obtain ⟨he1, he2⟩ := hB (r + 1) (by omega)
    have eL : fi_from A n s B (m + 1) r = fi_rec (A 4) (A 6) (A 5) (A 8) (fi_D A n) (fi_R A n) s (B r) (B (r + 1)) ++ fi_from A n s B m (r + 1) := rfl
    rw [eL] at early done
    generalize hRec : fi_rec (A 4) (A 6) (A 5) (A 8) (fi_D A n) (fi_R A n) s (B r) (B (r + 1)) = REC at early done
    -- behind the record
    have nxt : (∀ κ, κ < REC.length → ¬ k = nI (cnt + κ)) → ∀ (at' : Nat → Int32) (σ' : ri_S) (y3 y4 y6 : Int32), mo_W o (va_up A 9 at') (va_up I 24 (nI (cnt + REC.length))) σ0 σ' → ev_W (d + 2) mMo_finds (60, [some (.ref o), some (.int k), some (.int (nI r)), some (.int y3), some (.int y4), some (.int 0), some (.int y6)], []) σ' Q := by
      intro hall at' σ' y3 y4 y6 hW'
      refine g_br rfl rfl rfl rfl rfl rfl (fun h1 => ?_) (fun h1 => absurd rfl h1)
      refine ev_go 2 rfl ?_
      show ev_W (d + 2) mMo_finds (7, [some (.ref o), some (.int k), some (.int (nI r + 1)), some (.int y3), some (.int y4), some (.int 0), some (.int y6)], []) σ' Q
      rw [nI_1]
      refine ih (r + 1) (cnt + REC.length) at' σ' _ _ _ _ (by omega) hW' early.right (fun hall2 at2 σ2 hW2 => ?_)
      refine done (fun κ hκ => ?_) at2 σ2 (by rw [List.length_append, ← Nat.add_assoc]; exact hW2)
      rw [List.length_append] at hκ
      rcases Nat.lt_or_ge κ REC.length with z | z
      · exact hall κ z
      · have := hall2 (κ - REC.length) (by omega)
        rw [show cnt + REC.length + (κ - REC.length) = cnt + κ by omega] at this
        exact this
    have out : (∀ κ, κ < REC.length → ¬ k = nI (cnt + κ)) → ∀ (at' : Nat → Int32) (σ' : ri_S) (y4 : Int32), mo_W o (va_up A 9 at') (va_up I 24 (nI (cnt + REC.length))) σ0 σ' → ev_W (d + 2) mMo_finds (147, [some (.ref o), some (.int k), some (.int (nI r)), some (.int (-1)), some (.int y4), some (.int 1), some (.int (-1))], []) σ' Q := by
      intro hall at' σ' y4 hW'
      refine g_br rfl rfl rfl rfl rfl rfl (fun h1 => ?_) (fun h1 => absurd (by decide) h1)
      refine g_br rfl rfl rfl rfl rfl rfl (fun h1 => ?_) (fun h1 => absurd rfl h1)
      refine g_br rfl rfl rfl rfl rfl rfl (fun h1 => ?_) (fun h1 => absurd rfl h1)
      refine ev_go 1 rfl ?_
      exact nxt hall at' σ' (-1) y4 (-1) hW'
    refine g_get rfl rfl rfl hW.1.1 rfl ?_
    refine g_br rfl rfl rfl rfl rfl rfl (fun h1 => absurd h1 (by show ¬ I 11 ≤ _; rw [hN]; exact nI_ge (by omega) (by omega))) (fun h1 => ?_)
    refine g_get rfl rfl rfl hW.1.1 rfl ?_
    refine g_get rfl rfl rfl hW.1.1 rfl ?_
    refine mo_ald hW.1 7 rfl rfl rfl rfl (show r < 129 by omega) (by decide) rfl ?_
    refine g_clV rfl rfl rfl rfl hW.1.1 rfl rfl rfl ?_
    refine mo_next (e := B (r + 1)) (q := 0) (k := B r) hW.1 (nI_1 r) (show r + 1 < 129 by omega) he1 he2 rfl (by decide) hb1 hb2 ?_
    have hor := mo_nx_or (A 4) (A 6) (A 8 0) (-1) (B (r + 1) - B r) (B r)
    have eR : REC = if mo_nx (A 4) (A 6) (A 8 0) (-1) (B (r + 1) - B r) (B r) = -1 then [(0, 0, 0)] else fi_sib (fi_nx (A 4) (A 6) (A 8 0) (-1) (B (r + 1))) (fi_ent (A 4) (A 6) (A 5) (A 8) (fi_D A n) (fi_R A n) (B (r + 1)) (s - 1) 0) (fi_R A n 0) (B (r + 1)) (mo_nx (A 4) (A 6) (A 8 0) (-1) (B (r + 1) - B r) (B r)).toNatClampNeg 0 := hRec.symm
    show ev_W (d + 2) mMo_finds (32, [some (.ref o), some (.int k), some (.int (nI r)), x3, x4, x5, x6], [.int (mo_nx (A 4) (A 6) (A 8 0) (-1) (B (r + 1) - B r) (B r)), .int (nI 0), .ref (o + 10)]) σ Q
    generalize mo_nx (A 4) (A 6) (A 8 0) (-1) (B (r + 1) - B r) (B r) = c0 at hor eR ⊢
    refine mo_ast hW 9 (i := 0) rfl rfl rfl rfl (by decide) (by decide) rfl (fun σ1 hW1 => ?_)
    rw [bx_uu] at hW1
    change mo_W o (va_up A 9 (upd at0 0 c0)) (va_up I 24 (nI cnt)) σ0 σ1 at hW1
    refine g_get rfl rfl rfl hW1.1.1 rfl ?_
    refine mo_ald hW1.1 9 (i := 0) rfl rfl rfl rfl (by decide) (by decide) rfl ?_
    have e0 : va_up A 9 (upd at0 0 c0) 9 0 = c0 := rfl
    rw [e0]
    refine g_br rfl rfl rfl rfl rfl rfl (fun h2 => ?_) (fun h2 => ?_)
    · rw [if_pos h2] at eR
      subst eR
      refine ev_go 7 rfl ?_
      show ev_W (d + 2) mMo_finds (60, [some (.ref o), some (.int k), some (.int (nI r)), some (.int (-1)), some (.int 0), some (.int 1), x6], []) σ1 Q
      refine g_br rfl rfl rfl rfl rfl rfl (fun h3 => absurd h3 (by decide)) (fun h3 => ?_)
      refine g_get rfl rfl rfl hW1.1.1 rfl ?_
      refine g_br rfl rfl rfl rfl rfl rfl (fun h4 => ?_) (fun h4 => ?_)
      · refine mo_set hW1 rfl rfl rfl rfl rfl rfl rfl (fun σ2 hW2 => ?_)
        refine g_br rfl rfl rfl rfl rfl rfl (fun h5 => ?_) (fun h5 => absurd rfl h5)
        refine mo_set hW2 rfl rfl rfl rfl rfl rfl rfl (fun σ3 hW3 => ?_)
        refine g_get rfl rfl rfl hW3.1.1 rfl ?_
        have es : I 16 - 1 = nI (s - 1) := by rw [hs, show s = (s - 1) + 1 by omega]; exact nI_pred (s - 1)
        refine g_br rfl rfl rfl rfl rfl rfl (fun h6 => absurd (show (-1 : Int32) = I 16 - 1 from h6) (by rw [es]; exact fun z => nI_nm1 (by omega) z.symm)) (fun h6 => ?_)
        refine mo_set hW3 rfl rfl rfl rfl rfl rfl rfl (fun σ4 hW4 => ?_)
        exact g_rt rfl rfl rfl (early 0 (0, 0, 0) rfl h4.symm _ σ4 hW4)
      · refine g_get rfl rfl rfl hW1.1.1 rfl ?_
        refine mo_set hW1 rfl rfl rfl rfl rfl rfl rfl (fun σ2 hW2 => ?_)
        refine ev_go 2 rfl ?_
        refine out (fun κ hκ => ?_) (upd at0 0 c0) σ2 0 ?_
        · have h9 : κ < 1 := hκ
          rw [show κ = 0 by omega]
          exact fun z => h4 z.symm
        · have e1 : va_up (va_up I 24 (nI cnt)) 24 (va_up I 24 (nI cnt) 24 + 1) = va_up I 24 (nI (cnt + 1)) := by
            rw [bx_uu]
            show va_up I 24 (nI cnt + 1) = _
            rw [nI_1]
          rw [e1] at hW2
          exact hW2
    · rw [if_neg h2] at eR
      obtain ⟨p0, q1, q2, q3, -⟩ := hor.resolve_left h2
      subst q3
      rw [nI_clamp (by omega)] at eR
      subst eR
      refine g_clV rfl rfl rfl rfl hW1.1.1 rfl rfl rfl ?_
      refine mo_deeper (e := B (r + 1)) (i := 0) hW1 hs hs2 (nI_1 r) (show r + 1 < 129 by omega) he1 he2 rfl hs0 ⟨p0, by omega, rfl⟩ (fun σ2 hW2 => ?_)
      refine ev_go 5 rfl ?_
      rw [show s - 1 - 0 = s - 1 by omega] at hW2
      show ev_W (d + 2) mMo_finds (60, [some (.ref o), some (.int k), some (.int (nI r)), some (.int (nI (mo_dp (A 4) (A 6) (A 8) (B (r + 1)) (s - 1) (upd at0 0 (nI p0)) 0).2)), some (.int 0), some (.int 1), x6], []) σ2 Q
      refine fi_all hn hup hs hs2 hway he2 (nI_1 r) (show r + 1 < 129 by omega) he1 (s - 1) 0 (by omega) (B (r + 1)) p0 (upd at0 0 (nI p0)) 0 cnt σ2 x6 (by omega) (by omega) rfl hW2 early.left ?_
      intro hall at' rep' σ' _ hW'
      exact out hall at' σ' rep' hW'
set_option maxRecDepth 100000 in
/-- finds(k) -/
theorem mo_finds {k : Int32} {n s N : Nat} {B : Nat → Nat} {σ : ri_S} (hW : mo_W o A I σ0 σ) (hn : n ≤ 48) (hup : mo_up (A 0) n) (hs : I 16 = nI s) (hs0 : 0 < s) (hs2 : s ≤ 16) (hway : ∀ j, j < s → ∃ w, w < n ∧ A 8 j = nI w) (hN : I 11 = nI N) (hN2 : N ≤ 128) (hB : ∀ r, r ≤ N → A 7 r = nI (B r) ∧ B r ≤ 2048)
    (early : ∀ (κ : Nat) (en : fi_E), (fi_from A n s B N 0)[κ]? = some en → k = nI κ → ∀ (at' : Nat → Int32) (σ' : ri_S), mo_W o (va_up A 9 at') (va_up (va_up (va_up (va_up I 24 (nI κ)) 17 en.1) 18 en.2.1) 19 en.2.2) σ0 σ' → Q (some (.int 1)) σ')
    (done : (∀ κ, κ < (fi_from A n s B N 0).length → ¬ k = nI κ) → ∀ (at' : Nat → Int32) (σ' : ri_S), mo_W o (va_up A 9 at') (va_up I 24 (nI (fi_from A n s B N 0).length)) σ0 σ' → Q (some (.int 0)) σ') :
    ev_W (d + 2) mMo_finds (0, [some (.ref o), some (.int k), none, none, none, none, none], []) σ Q := by
  refine mo_set hW rfl rfl rfl rfl rfl rfl rfl (fun σ1 hW1 => ?_)
  refine ev_go 2 rfl ?_
  have hA : va_up A 9 (A 9) = A := by
    funext j
    unfold va_up
    by_cases z : j = 9
    · rw [if_pos z, z]
    · rw [if_neg z]
  refine fi_loop hn hup hs hs0 hs2 hway hN hN2 hB N 0 0 (A 9) σ1 none none none none (by omega) (by rw [hA]; exact hW1) ?_ ?_
  · intro κ en h1 h2 at' σ' h3
    rw [Nat.zero_add] at h2 h3
    exact early κ en h1 h2 at' σ' h3
  · intro hall at' σ' h3
    rw [Nat.zero_add] at h3
    exact done (fun κ hκ => by have := hall κ hκ; rw [Nat.zero_add] at this; exact this) at' σ' h3
end FI3
