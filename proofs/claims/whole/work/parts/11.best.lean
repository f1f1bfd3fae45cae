/-! the best step: least by cost, length and the order of the visits; both sides find it -/
def tl_rk (t : Nat) : Nat := 5 * (t % 5) + t / 5
def tl_ln (t : Nat) : Nat := ((t / 5 - 2) + (2 - t / 5)) + ((t % 5 - 2) + (2 - t % 5))
def tl_key (c : Nat → Int32) (t : Nat) : Int := (c t).toInt * 1000 + ((tl_ln t * 100 + tl_rk t : Nat) : Int)
theorem tl_rkb {t : Nat} (h : t < 25) : tl_rk t < 25 := by unfold tl_rk; omega
theorem tl_lnb {t : Nat} (h : t < 25) : tl_ln t ≤ 4 := by unfold tl_ln; omega
theorem tl_rki {s t : Nat} (hs : s < 25) (ht : t < 25) (h : tl_rk s = tl_rk t) : s = t := by unfold tl_rk at h; omega
theorem tl_ln12 {s : Nat} (hs : s < 25) (h : tl_ln s = 0) : s = 12 := by unfold tl_ln at h; omega
theorem tl_keyi {c : Nat → Int32} {s t : Nat} (hs : s < 25) (ht : t < 25) (h : tl_key c s = tl_key c t) : s = t := by
  have a1 := tl_rkb hs
  have a2 := tl_rkb ht
  have a3 := tl_lnb hs
  have a4 := tl_lnb ht
  unfold tl_key at h
  exact tl_rki hs ht (by omega)
def tl_bsN (c : Nat → Int32) : Nat → Nat
  | 0 => 0
  | n + 1 => if tl_key c (n + 1) < tl_key c (tl_bsN c n) then n + 1 else tl_bsN c n
theorem tl_bsp {c : Nat → Int32} {n : Nat} (h : tl_key c (n + 1) < tl_key c (tl_bsN c n)) : tl_bsN c (n + 1) = n + 1 := if_pos h
theorem tl_bsn {c : Nat → Int32} {n : Nat} (h : ¬ tl_key c (n + 1) < tl_key c (tl_bsN c n)) : tl_bsN c (n + 1) = tl_bsN c n := if_neg h
theorem tl_bs_least (c : Nat → Int32) : ∀ n, tl_bsN c n ≤ n ∧ ∀ t, t ≤ n → tl_key c (tl_bsN c n) ≤ tl_key c t := by
  intro n
  induction n with
  | zero =>
    refine ⟨Nat.le_refl _, fun t ht => ?_⟩
    rw [show t = 0 from by omega]
    exact Int.le_refl _
  | succ n ih =>
    by_cases h : tl_key c (n + 1) < tl_key c (tl_bsN c n)
    · rw [tl_bsp h]
      refine ⟨Nat.le_refl _, fun t ht => ?_⟩
      by_cases e : t = n + 1
      · rw [e]
        exact Int.le_refl _
      · have := ih.2 t (by omega)
        omega
    · rw [tl_bsn h]
      refine ⟨by omega, fun t ht => ?_⟩
      by_cases e : t = n + 1
      · rw [e]
        omega
      · exact ih.2 t (by omega)
def tl_iv (c : Nat → Int32) (r b : Nat) : Prop := b < 25 ∧ (b = 12 ∨ tl_rk b < r) ∧ ∀ t, t < 25 → tl_rk t < r → tl_key c b ≤ tl_key c t
def tl_b2 (c : Nat → Int32) (s b : Nat) : Prop := (c s).toInt < (c b).toInt ∨ ((c s).toInt = (c b).toInt ∧ tl_ln s < tl_ln b)
theorem tl_iv0 (c : Nat → Int32) : tl_iv c 0 12 := ⟨by omega, Or.inl rfl, fun t _ h => by omega⟩
theorem tl_iv_y {c : Nat → Int32} {r s b : Nat} (hs : s < 25) (hr : tl_rk s = r) (h : tl_iv c r b) (h2 : tl_b2 c s b) : tl_iv c (r + 1) s := by
  obtain ⟨hb, _, hl⟩ := h
  refine ⟨hs, Or.inr (by omega), fun t ht htr => ?_⟩
  by_cases e : tl_rk t = r
  · rw [tl_rki hs ht (by omega)]
    exact Int.le_refl _
  · have h3 := hl t ht (by omega)
    have a1 := tl_rkb hs
    have a2 := tl_rkb hb
    have a3 := tl_lnb hs
    have a4 := tl_lnb hb
    refine Int.le_trans ?_ h3
    unfold tl_key
    unfold tl_b2 at h2
    omega
theorem tl_iv_n {c : Nat → Int32} {r s b : Nat} (hs : s < 25) (hr : tl_rk s = r) (h : tl_iv c r b) (h2 : ¬ tl_b2 c s b) : tl_iv c (r + 1) b := by
  obtain ⟨hb, hv, hl⟩ := h
  refine ⟨hb, by omega, fun t ht htr => ?_⟩
  by_cases e : tl_rk t = r
  · rw [← tl_rki hs ht (by omega)]
    have a1 := tl_rkb hs
    have a2 := tl_rkb hb
    have a3 := tl_lnb hs
    have a4 := tl_lnb hb
    by_cases e2 : (c s).toInt = (c b).toInt ∧ tl_ln s = tl_ln b
    · rcases hv with hv | hv
      · subst hv
        rw [tl_ln12 hs (e2.2.trans (by decide))]
        exact Int.le_refl _
      · unfold tl_key
        omega
    · unfold tl_key
      unfold tl_b2 at h2
      omega
  · exact hl t ht (by omega)
theorem tl_iv_end {c : Nat → Int32} {b : Nat} (h : tl_iv c 25 b) : b = tl_bsN c 24 := by
  obtain ⟨hb, _, hl⟩ := h
  have h1 := tl_bs_least c 24
  have h2 := hl (tl_bsN c 24) (by omega) (tl_rkb (by omega))
  have h3 := h1.2 b (by omega)
  exact tl_keyi (c := c) hb (by omega) (by omega)
/-! tables -/
theorem tl_if {c d A B : Prop} (e : c ↔ d) (f : d → A) (g : ¬ d → B) : (c → A) ∧ (¬ c → B) := ⟨fun h => f (e.mp h), fun h => g (fun hd => h (e.mpr hd))⟩
theorem tl_t1 : ∀ j, j < 5 → ∀ i, i < 5 → 5 * (nI j - 2 + 2) + (nI i - 2) + 2 = nI (5 * j + i) := by decide +kernel
theorem tl_t2 : ∀ j, j < 5 → ∀ i, i < 5 → tl_sz (nI j - 2) + tl_sz (nI i - 2) = nI (tl_ln (5 * j + i)) := by decide +kernel
theorem tl_t3 : ∀ j, j < 5 → ¬ (2 : Int32) < nI j - 2 := by decide +kernel
theorem tl_t4 : ∀ j, j < 5 → nI j - 2 + 1 = nI (j + 1) - 2 := by decide +kernel
theorem tl_t5 : ∀ j, j < 5 → ∀ i, i < 5 → (nI j - 2 = nI i - 2 ↔ j = i) := by decide +kernel
theorem tl_t6 : ∀ j, j < 5 → ∀ i, i < 5 → (nI j - 2 ≤ nI i - 2 ↔ j ≤ i) := by decide +kernel
theorem tl_lnE {s : Nat} (h : s < 25) : tl_sz (nI (s / 5) - 2) + tl_sz (nI (s % 5) - 2) = nI (tl_ln s) := by
  have e := tl_t2 (s / 5) (by omega) (s % 5) (by omega)
  rw [show 5 * (s / 5) + s % 5 = s from by omega] at e
  exact e
section
variable {P V O OV C K SV F : Nat → Int32}
theorem tl_better {post : Int32 → Prop} {s t : Nat} {c d : Int32} (hs : s < 25) (ht : t < 25)
    (h1 : c.toInt * 1000 + ((tl_ln s * 100 + tl_rk s : Nat) : Int) < d.toInt * 1000 + ((tl_ln t * 100 + tl_rk t : Nat) : Int) → post 1)
    (h0 : ¬ c.toInt * 1000 + ((tl_ln s * 100 + tl_rk s : Nat) : Int) < d.toInt * 1000 + ((tl_ln t * 100 + tl_rk t : Nat) : Int) → post 0) :
    wpY_better post (P, O, K, V, OV, SV, F) (nI s) c (nI t) d := by
  have a1 := tl_rkb hs
  have a2 := tl_rkb ht
  have a3 := tl_lnb hs
  have a4 := tl_lnb ht
  unfold wpY_better
  dsimp only
  by_cases e : c = d
  · subst e
    refine br_t rfl ?_
    rw [tl_r5 hs, tl_r5 ht, tl_d5 hs, tl_d5 ht]
    refine ⟨by decide, nm_e ⟨by decide, nm_e ⟨by decide, nm_e ⟨by decide, nm_e ?_⟩⟩⟩⟩
    refine tl_szY (tl_szY (nm_r (tl_lnE hs) (tl_szY (tl_szY (nm_r (tl_lnE ht) ?_)))))
    refine pk_eq (tl_ln s) (tl_ln t) (fun e1 => ?_) (fun e1 => ?_)
    · refine tl_if (tl_t5 (s % 5) (by omega) (t % 5) (by omega)) (fun e2 => ?_) (fun e2 => ?_)
      · refine tl_if (tl_t6 (t / 5) (by omega) (s / 5) (by omega)) (fun e3 => h0 ?_) (fun e3 => h1 ?_)
        · unfold tl_rk
          omega
        · unfold tl_rk
          omega
      · refine tl_if (tl_t6 (t % 5) (by omega) (s % 5) (by omega)) (fun e3 => h0 ?_) (fun e3 => h1 ?_)
        · unfold tl_rk
          omega
        · unfold tl_rk
          omega
    · exact pk_le (tl_ln t) (tl_ln s) (fun e2 => h0 (by omega)) (fun e2 => h1 (by omega))
  · have e' : ¬ c.toInt = d.toInt := fun h => e (Int32.toInt_inj.mp h)
    exact br_f e (tl_if Int32.le_iff_toInt_le (fun h => h0 (by omega)) (fun h => h1 (by omega)))
theorem tl_bestY {post : Int32 → Prop} {l b : Nat} (hl : l < 3) (hb : b < 4) (hP : post (nI (tl_bsN (tl_cost P l b) 24))) : wpY_bestStep post (P, O, K, V, OV, SV, F) (nI l) (nI b) := by
  refine loop_0 (fun n i s => wY_bestStep_5 post (nI l) (nI b) P O K V OV SV F n s (nI (i + 1))) (fun i s => s = nI (tl_bsN (tl_cost P l b) i)) 24 _ rfl ?_ ?_
  · intro n s hs
    subst hs
    exact br_t (tl_le 25) hP
  · intro n i s hi hs ih
    subst hs
    have hm := (tl_bs_least (tl_cost P l b) i).1
    refine br_f (nI_ge (b := 25) (by omega) (by decide)) ?_
    refine tl_coY hl hb (s := i + 1) (by omega) ?_
    refine tl_coY hl hb (s := tl_bsN (tl_cost P l b) i) (by omega) ?_
    refine tl_better (by omega) (by omega) (fun h => ?_) (fun h => ?_)
    · exact br_f (by decide) (nm_r (nI_1 (i + 1)) (ih _ (congrArg nI (tl_bsp h).symm)))
    · exact br_t rfl (nm_r (nI_1 (i + 1)) (ih _ (congrArg nI (tl_bsn h).symm)))
theorem tl_bestX1 {post : Int32 → Prop} {J : Int32 → Int32 → Int32 → Int32 → Prop} {l b i m : Nat} (hl : l < 3) (hb : b < 4) (hi : i < 5) (hm : tl_iv (tl_cost P l b) (5 * i) m)
    (hJ : ∀ m', tl_iv (tl_cost P l b) (5 * (i + 1)) m' → J (nI m') (tl_cost P l b m') (nI (tl_ln m')) (nI (i + 1) - 2)) :
    ∃ n, wX_bestStep_30 post J (nI l) (nI b) (nI i - 2) P V O OV C SV F n (nI m) (tl_cost P l b m) (nI (tl_ln m)) (nI 0 - 2) := by
  refine loop_0 (fun n j m => wX_bestStep_30 post J (nI l) (nI b) (nI i - 2) P V O OV C SV F n (nI m) (tl_cost P l b m) (nI (tl_ln m)) (nI j - 2)) (fun j m => tl_iv (tl_cost P l b) (5 * i + j) m) 5 m hm ?_ ?_
  · intro n m' h
    exact br_t (show (2 : Int32) < nI 5 - 2 by decide) (nm_r (tl_t4 i hi) (hJ m' h))
  · intro n j m' hj h ih
    have hm' := h.1
    have hs : 5 * j + i < 25 := by omega
    have hr : tl_rk (5 * j + i) = 5 * i + j := by unfold tl_rk; omega
    refine br_f (tl_t3 j hj) (nm_r (tl_t1 j hj i hi) ?_)
    refine tl_coX hl hb hs (tl_szX (tl_szX (nm_r (tl_t2 j hj i hi) ?_)))
    have hl1 := tl_lnb hm'
    have hl2 := tl_lnb hs
    refine tl_if Int32.lt_iff_toInt_lt (fun h1 => ?_) (fun h1 => ?_)
    · exact nm_r (tl_t4 j hj) (ih _ (tl_iv_y hs hr h (Or.inl h1)))
    · refine tl_if Int32.toInt_inj.symm (fun h2 => ?_) (fun h2 => ?_)
      · refine pk_le (tl_ln m') (tl_ln (5 * j + i)) (fun h3 => ?_) (fun h3 => ?_)
        · exact nm_r (tl_t4 j hj) (ih _ (tl_iv_n hs hr h (fun hb2 => by unfold tl_b2 at hb2; omega)))
        · exact nm_r (tl_t4 j hj) (ih _ (tl_iv_y hs hr h (Or.inr ⟨h2, h3⟩)))
      · exact nm_r (tl_t4 j hj) (ih _ (tl_iv_n hs hr h (fun hb2 => by unfold tl_b2 at hb2; omega)))
theorem tl_bestX {post : Int32 → Prop} {l b : Nat} (hl : l < 3) (hb : b < 4) (hP : post (nI (tl_bsN (tl_cost P l b) 24))) : wpX_bestStep post (P, V, O, OV, C, SV, F) (nI l) (nI b) := by
  have e2 : (-2 : Int32) = nI 0 - 2 := by decide
  unfold wpX_bestStep
  dsimp only
  refine tl_coX hl hb (s := 12) (by omega) ?_
  rw [e2]
  refine loop_0 (fun n i m => wX_bestStep_20 post (nI l) (nI b) P V O OV C SV F n (nI m) (tl_cost P l b m) (nI (tl_ln m)) (nI i - 2)) (fun i m => tl_iv (tl_cost P l b) (5 * i) m) 5 12 (tl_iv0 _) ?_ ?_
  · intro n m h
    rw [← tl_iv_end h] at hP
    exact br_t (show (2 : Int32) < nI 5 - 2 by decide) hP
  · intro n i m hi h ih
    refine br_f (tl_t3 i hi) ?_
    rw [e2]
    exact tl_bestX1 hl hb hi h ih
end
