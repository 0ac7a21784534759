/-! THE REFERENCE'S OCCURRENCES AS A TREE: how many entries there can be; its events can be told. -/
theorem co_su_mono {f g : Nat → Nat} : ∀ n, (∀ c, c < n → f c ≤ g c) → co_su n f ≤ co_su n g
  | 0, _ => Nat.le_refl _
  | n + 1, h => Nat.add_le_add (co_su_mono n (fun c hc => h c (by omega))) (h n (by omega))
theorem co_su_add {f g : Nat → Nat} : ∀ n, co_su n (fun c => f c + g c) = co_su n f + co_su n g
  | 0 => rfl
  | n + 1 => by
    show co_su n (fun c => f c + g c) + (f n + g n) = co_su n f + f n + (co_su n g + g n)
    rw [co_su_add n]
    omega
/-- what lies in ins, weighed by g -/
def tr_in (aro : Nat → Int32) (g : Nat → Nat) (ins : Int32) : Nat → Nat := fun q => if aro q = ins then g q else 0
/-- what lies in one of the first P, weighed by g -/
def tr_c (aro : Nat → Int32) (g : Nat → Nat) : Nat → Nat → Nat
  | 0, _ => 0
  | P + 1, q => if aro q = nI P then g q else tr_c aro g P q
theorem tr_c_le (aro : Nat → Int32) (g : Nat → Nat) (q : Nat) : ∀ P, tr_c aro g P q ≤ g q
  | 0 => Nat.zero_le _
  | P + 1 => by
    show (if aro q = nI P then g q else tr_c aro g P q) ≤ g q
    split
    · exact Nat.le_refl _
    · exact tr_c_le aro g q P
theorem tr_c_0 (aro : Nat → Int32) (g : Nat → Nat) (q R : Nat) (hR : R < 2 ^ 31) (h : aro q = nI R) : ∀ P, P ≤ R → tr_c aro g P q = 0
  | 0, _ => rfl
  | P + 1, hP => by
    show (if aro q = nI P then g q else tr_c aro g P q) = 0
    rw [if_neg (fun z => ?_)]
    · exact tr_c_0 aro g q R hR h P (by omega)
    · have := (nI_eq hR (by omega)).mp (h.symm.trans z)
      omega
theorem tr_sum (aro : Nat → Int32) (g : Nat → Nat) (e : Nat) : ∀ P, P ≤ 2048 → co_su P (fun p => co_su e (tr_in aro g (nI p))) ≤ co_su e (tr_c aro g P)
  | 0, _ => Nat.zero_le _
  | P + 1, hP => by
    show co_su P (fun p => co_su e (tr_in aro g (nI p))) + co_su e (tr_in aro g (nI P)) ≤ _
    have ih := tr_sum aro g e P (by omega)
    have h2 : co_su e (fun q => tr_c aro g P q + tr_in aro g (nI P) q) ≤ co_su e (tr_c aro g (P + 1)) := co_su_mono e (fun q _ => by
      show tr_c aro g P q + (if aro q = nI P then g q else 0) ≤ (if aro q = nI P then g q else tr_c aro g P q)
      by_cases z : aro q = nI P
      · rw [if_pos z, if_pos z, tr_c_0 aro g q P (by omega) z P (Nat.le_refl _)]
        omega
      · rw [if_neg z, if_neg z]
        omega)
    rw [co_su_add] at h2
    omega
/-- a bound of the entries that an occurrence has, t steps above the leaf -/
def tr_g (aro : Nat → Int32) (e : Nat) : Nat → Nat → Nat
  | 0, _ => 1
  | t + 1, p => 1 + co_su e (tr_in aro (tr_g aro e t) (nI p))
theorem tr_1 : ∀ e, co_su e (fun _ => 1) = e
  | 0 => rfl
  | e + 1 => by
    show co_su e (fun _ => 1) + 1 = e + 1
    rw [tr_1 e]
theorem tr_tot (aro : Nat → Int32) (e : Nat) (he : e ≤ 2048) : ∀ t, co_su e (tr_g aro e t) ≤ (t + 1) * e
  | 0 => by
    show co_su e (fun _ => 1) ≤ _
    rw [tr_1]
    omega
  | t + 1 => by
    have h1 : co_su e (tr_g aro e (t + 1)) = co_su e (fun p => (fun _ => 1) p + (fun p => co_su e (tr_in aro (tr_g aro e t) (nI p))) p) := rfl
    rw [h1, co_su_add, tr_1]
    have h2 := tr_sum aro (tr_g aro e t) e e he
    have h3 : co_su e (tr_c aro (tr_g aro e t) e) ≤ co_su e (tr_g aro e t) := co_su_mono e (fun q _ => tr_c_le aro _ q e)
    have h4 := tr_tot aro e he t
    have h5 : (t + 1 + 1) * e = (t + 1) * e + e := Nat.succ_mul _ _
    omega
/-- the part of a sum from p on -/
def tr_fr (f : Nat → Nat) (p : Nat) : Nat → Nat := fun q => if p ≤ q then f q else 0
theorem tr_fr_le (f : Nat → Nat) (p e : Nat) : co_su e (tr_fr f p) ≤ co_su e f := co_su_mono e (fun q _ => by unfold tr_fr; split <;> omega)
theorem tr_fr_s (f : Nat → Nat) {p q : Nat} (hq : p < q) : ∀ e, p < e → f p + co_su e (tr_fr f q) ≤ co_su e (tr_fr f p)
  | 0, h => absurd h (Nat.not_lt_zero _)
  | e + 1, h => by
    show f p + (co_su e (tr_fr f q) + tr_fr f q e) ≤ co_su e (tr_fr f p) + tr_fr f p e
    by_cases z : p = e
    · subst z
      have h1 : co_su p (tr_fr f q) ≤ co_su p (tr_fr f p) := co_su_mono p (fun c hc => by unfold tr_fr; rw [if_neg (by omega), if_neg (by omega)]; exact Nat.le_refl _)
      have h2 : tr_fr f q p = 0 := if_neg (by omega)
      have h3 : tr_fr f p p = f p := if_pos (Nat.le_refl _)
      omega
    · have ih := tr_fr_s f hq e (by omega)
      have h3 : tr_fr f p e = f e := if_pos (by omega)
      have h4 : tr_fr f q e ≤ f e := by unfold tr_fr; split <;> omega
      omega
theorem tr_sib {ofs aro : Nat → Int32} {w ins : Int32} {e : Nat} {en : Nat → Int32 → List fi_E} {R : Int32} {g : Nat → Nat} (he : e ≤ 2048) (hg : ∀ p rep, p < e → (en p rep).length ≤ g p) : ∀ (u p : Nat) (rep : Int32), p < e → aro p = ins → (fi_sib (fi_nx ofs aro w ins e) en R u p rep).length ≤ co_su e (tr_fr (tr_in aro g ins) p)
  | 0, _, _, _, _ => Nat.zero_le _
  | u + 1, p, rep, hp, ha => by
    show (en p rep ++ (if fi_nx ofs aro w ins e (p + 1) = -1 then [] else fi_sib (fi_nx ofs aro w ins e) en R u (fi_nx ofs aro w ins e (p + 1)).toNatClampNeg R)).length ≤ _
    rw [List.length_append]
    have h1 := hg p rep hp
    have h0 : tr_in aro g ins p = g p := if_pos ha
    rcases mo_nx_or ofs aro w ins (e - (p + 1)) (p + 1) with z | ⟨q, q1, q2, q3, q4, q5⟩
    · have z' : fi_nx ofs aro w ins e (p + 1) = -1 := z
      rw [if_pos z']
      have h2 := tr_fr_s (tr_in aro g ins) (show p < e by omega) e hp
      have h3 : ([] : List fi_E).length = 0 := rfl
      omega
    · have z' : fi_nx ofs aro w ins e (p + 1) = nI q := q3
      rw [z', if_neg (nI_nm1 (by omega)), nI_clamp (by omega)]
      have ih := tr_sib (ofs := ofs) (w := w) (R := R) he hg u q R (by omega) q5
      have h2 := tr_fr_s (tr_in aro g ins) (show p < q by omega) e hp
      omega
theorem tr_ent {ofs aro val way D R : Nat → Int32} {e : Nat} (he : e ≤ 2048) : ∀ (t j p : Nat) (rep : Int32), p < e → (fi_ent ofs aro val way D R e t j p rep).length ≤ tr_g aro e t p
  | 0, _, _, _, _ => Nat.le_refl _
  | t + 1, j, p, rep, hp => by
    show (if fi_nx ofs aro (way (j + 1)) (nI p) e (p + 1) = -1 then [(rep, D j, 0)] else fi_sib (fi_nx ofs aro (way (j + 1)) (nI p) e) (fi_ent ofs aro val way D R e t (j + 1)) (R (j + 1)) e (fi_nx ofs aro (way (j + 1)) (nI p) e (p + 1)).toNatClampNeg rep).length ≤ 1 + co_su e (tr_in aro (tr_g aro e t) (nI p))
    rcases mo_nx_or ofs aro (way (j + 1)) (nI p) (e - (p + 1)) (p + 1) with z | ⟨q, q1, q2, q3, q4, q5⟩
    · have z' : fi_nx ofs aro (way (j + 1)) (nI p) e (p + 1) = -1 := z
      rw [if_pos z']
      show 1 ≤ _
      omega
    · have z' : fi_nx ofs aro (way (j + 1)) (nI p) e (p + 1) = nI q := q3
      rw [z', if_neg (nI_nm1 (by omega)), nI_clamp (by omega)]
      have h1 := tr_sib (ofs := ofs) (w := way (j + 1)) (R := R (j + 1)) (en := fi_ent ofs aro val way D R e t (j + 1)) he (fun p rep hp => tr_ent he t (j + 1) p rep hp) e q rep (by omega) q5
      have h2 := tr_fr_le (tr_in aro (tr_g aro e t) (nI p)) q e
      omega
theorem tr_rec {ofs aro val way D R : Nat → Int32} {s b e : Nat} (he : e ≤ 2048) (hs : s ≤ 16) : (fi_rec ofs aro val way D R s b e).length ≤ 40000 := by
  unfold fi_rec
  rcases mo_nx_or ofs aro (way 0) (-1) (e - b) b with z | ⟨q, q1, q2, q3, q4, q5⟩
  · have z' : fi_nx ofs aro (way 0) (-1) e b = -1 := z
    rw [if_pos z']
    show 1 ≤ 40000
    decide
  · have z' : fi_nx ofs aro (way 0) (-1) e b = nI q := q3
    rw [z', if_neg (nI_nm1 (by omega)), nI_clamp (by omega)]
    have h1 := tr_sib (ofs := ofs) (w := way 0) (R := R 0) (en := fi_ent ofs aro val way D R e (s - 1) 0) he (fun p rep hp => tr_ent he (s - 1) 0 p rep hp) e q 0 (by omega) q5
    have h2 := tr_fr_le (tr_in aro (tr_g aro e (s - 1)) (-1)) q e
    have h3 : co_su e (tr_in aro (tr_g aro e (s - 1)) (-1)) ≤ co_su e (tr_g aro e (s - 1)) := co_su_mono e (fun c _ => by unfold tr_in; split <;> omega)
    have h4 := tr_tot aro e he (s - 1)
    have h5 : (s - 1 + 1) * e ≤ 17 * e := Nat.mul_le_mul_right e (by omega)
    omega
theorem tr_from {A : Nat → Nat → Int32} {n s : Nat} {B : Nat → Nat} (hs : s ≤ 16) : ∀ (m r : Nat), (∀ i, i ≤ r + m → B i ≤ 2048) → (fi_from A n s B m r).length ≤ m * 40000
  | 0, _, _ => Nat.zero_le _
  | m + 1, r, hB => by
    show (fi_rec (A 4) (A 6) (A 5) (A 8) (fi_D A n) (fi_R A n) s (B r) (B (r + 1)) ++ fi_from A n s B m (r + 1)).length ≤ _
    rw [List.length_append, Nat.succ_mul]
    have h1 := tr_rec (ofs := A 4) (aro := A 6) (val := A 5) (way := A 8) (D := fi_D A n) (R := fi_R A n) (b := B r) (hB (r + 1) (by omega)) hs
    have h2 := tr_from (A := A) (n := n) hs m (r + 1) (fun i hi => hB i (by omega))
    omega
theorem tr_ents {A : Nat → Nat → Int32} {n N : Nat} {B : Nat → Nat} (hN : N ≤ 128) (hB : ∀ i, i ≤ N → B i ≤ 2048) (f k : Nat) (hk : k ≤ 16) : (mo_ents A n N B f k).length < 2 ^ 31 := by
  unfold mo_ents
  have h1 := tr_from (A := va_up A 8 (mo_wy (A 0) k (nI f) (A 8))) (n := n) (B := B) hk N 0 (fun i hi => hB i (by omega))
  have h2 : N * 40000 ≤ 128 * 40000 := Nat.mul_le_mul_right _ hN
  omega
