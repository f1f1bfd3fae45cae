/-! invert: the box, counted along the frame's 64 places -/
abbrev tl_bx (x0 y0 i : Nat) : Prop := x0 ≤ i % 8 ∧ i % 8 < x0 + 3 ∧ y0 ≤ i / 8 ∧ i / 8 < y0 + 3
def tl_inv (P : Nat → Int32) (lo x0 y0 n : Nat) : Nat → Int32 := fun j => if (lo ≤ j ∧ j < lo + n) ∧ tl_bx x0 y0 (j - lo) then 255 - P j else P j
def tl_cnt (x0 y0 : Nat) : Nat → Nat
  | 0 => 0
  | n + 1 => tl_cnt x0 y0 n + (if tl_bx x0 y0 n then 1 else 0)
theorem tl_inv0 (P : Nat → Int32) (lo x0 y0 : Nat) : tl_inv P lo x0 y0 0 = P := by
  funext j
  exact if_neg (fun h => by omega)
theorem tl_invS {P : Nat → Int32} {lo x0 y0 n : Nat} (h : tl_bx x0 y0 n) : upd (tl_inv P lo x0 y0 n) (lo + n) (255 - tl_inv P lo x0 y0 n (lo + n)) = tl_inv P lo x0 y0 (n + 1) := by
  have e : tl_inv P lo x0 y0 n (lo + n) = P (lo + n) := if_neg (fun h => by omega)
  rw [e]
  funext j
  by_cases hj : j = lo + n
  · subst hj
    rw [pk_us]
    exact (if_pos ⟨⟨by omega, by omega⟩, by rw [Nat.add_sub_cancel_left]; exact h⟩).symm
  · rw [pk_un hj]
    unfold tl_inv
    by_cases h2 : (lo ≤ j ∧ j < lo + n) ∧ tl_bx x0 y0 (j - lo)
    · rw [if_pos h2, if_pos ⟨⟨h2.1.1, by omega⟩, h2.2⟩]
    · rw [if_neg h2, if_neg (fun h3 => h2 ⟨⟨h3.1.1, by omega⟩, h3.2⟩)]
theorem tl_invN {P : Nat → Int32} {lo x0 y0 n : Nat} (h : ¬ tl_bx x0 y0 n) : tl_inv P lo x0 y0 (n + 1) = tl_inv P lo x0 y0 n := by
  funext j
  unfold tl_inv
  by_cases hj : j = lo + n
  · subst hj
    rw [if_neg (fun h3 => h (by have := h3.2; rw [Nat.add_sub_cancel_left] at this; exact this)), if_neg (fun h3 => by omega)]
  · by_cases h2 : (lo ≤ j ∧ j < lo + n) ∧ tl_bx x0 y0 (j - lo)
    · rw [if_pos h2, if_pos ⟨⟨h2.1.1, by omega⟩, h2.2⟩]
    · rw [if_neg h2, if_neg (fun h3 => h2 ⟨⟨h3.1.1, by omega⟩, h3.2⟩)]
theorem tl_cntS {x0 y0 n : Nat} (h : tl_bx x0 y0 n) : nI (tl_cnt x0 y0 n) + 1 = nI (tl_cnt x0 y0 (n + 1)) := by
  rw [nI_1]
  show _ = nI (tl_cnt x0 y0 n + (if tl_bx x0 y0 n then 1 else 0))
  rw [if_pos h]
theorem tl_cntN {x0 y0 n : Nat} (h : ¬ tl_bx x0 y0 n) : tl_cnt x0 y0 (n + 1) = tl_cnt x0 y0 n := by
  show tl_cnt x0 y0 n + (if tl_bx x0 y0 n then 1 else 0) = _
  rw [if_neg h, Nat.add_zero]
def tl_iq (P : Nat → Int32) (lo x0 y0 n : Nat) : Int32 × (Nat → Int32) := (nI (tl_cnt x0 y0 n), tl_inv P lo x0 y0 n)
theorem tl_iqN {P : Nat → Int32} {lo x0 y0 n : Nat} (h : ¬ tl_bx x0 y0 n) : tl_iq P lo x0 y0 n = tl_iq P lo x0 y0 (n + 1) := by
  unfold tl_iq
  rw [tl_invN h, tl_cntN h]
theorem tl_iqK {P : Nat → Int32} {lo x0 y0 n : Nat} : ∀ d : Nat, (∀ i, n ≤ i → i < n + d → ¬ tl_bx x0 y0 i) → tl_iq P lo x0 y0 n = tl_iq P lo x0 y0 (n + d) := by
  intro d
  induction d with
  | zero => intro _; rfl
  | succ d ih =>
    intro h
    rw [ih (fun i h1 h2 => h i h1 (by omega)), tl_iqN (h (n + d) (by omega) (by omega))]
    rfl
theorem tl_iqJ {P : Nat → Int32} {lo x0 y0 n m : Nat} (hm : n ≤ m) (h : ∀ i, n ≤ i → i < m → ¬ tl_bx x0 y0 i) : tl_iq P lo x0 y0 n = tl_iq P lo x0 y0 m := by
  have e := tl_iqK (P := P) (lo := lo) (x0 := x0) (y0 := y0) (n := n) (m - n) (fun i h1 h2 => h i h1 (by omega))
  rw [Nat.add_sub_cancel' hm] at e
  exact e
section
variable {P V O OV C K SV F : Nat → Int32}
theorem tl_ivX1 {post : Int32 → SX → Prop} {J : Int32 → Int32 → (Nat → Int32) → (Nat → Int32) → (Nat → Int32) → (Nat → Int32) → (Nat → Int32) → (Nat → Int32) → (Nat → Int32) → Prop} {f x0 y0 y : Nat} (hf : f < 4) (hx : x0 < 8) (h0 : y0 ≤ y) (h3 : y < y0 + 3) (hy : y < 8)
    (hJ : J (tl_iq P (64 * f) x0 y0 (8 * (y + 1) + x0)).1 (nI (y + 1)) (tl_iq P (64 * f) x0 y0 (8 * (y + 1) + x0)).2 V O OV C SV F) :
    ∃ n, wX_invert_44 post J (nI f) (nI x0) (nI y0) (nI y) n (tl_iq P (64 * f) x0 y0 (8 * y + x0)).1 (nI x0) (tl_iq P (64 * f) x0 y0 (8 * y + x0)).2 V O OV C SV F := by
  refine pk_loop (fun n i (q : Int32 × (Nat → Int32)) => wX_invert_44 post J (nI f) (nI x0) (nI y0) (nI y) n q.1 (nI i) q.2 V O OV C SV F) (fun i q => x0 ≤ i ∧ q = tl_iq P (64 * f) x0 y0 (8 * y + i)) (min (x0 + 3) 8) x0 (tl_iq P (64 * f) x0 y0 (8 * y + x0)) (by omega) ⟨Nat.le_refl _, rfl⟩ ?_ ?_
  · intro n q hq
    have e : tl_iq P (64 * f) x0 y0 (8 * y + min (x0 + 3) 8) = tl_iq P (64 * f) x0 y0 (8 * (y + 1) + x0) := tl_iqJ (by omega) (fun i h1 h2 h => by
      obtain ⟨a1, a2, a3, a4⟩ := h
      omega)
    rw [hq.2, e]
    exact pk_le (x0 + 3) (min (x0 + 3) 8) (fun _ => nm_r (nI_1 y) hJ) (fun _ => pk_le 8 (min (x0 + 3) 8) (fun _ => nm_r (nI_1 y) hJ) (fun h => by omega)) (hx := nI_add x0 3)
  · intro n i q hi hq ih
    obtain ⟨hi0, rfl⟩ := hq
    have hb : tl_bx x0 y0 (8 * y + i) := ⟨by omega, by omega, by omega, by omega⟩
    refine pk_le (x0 + 3) i (fun h => by omega) (fun _ => pk_le 8 i (fun h => by omega) (fun _ => ?_)) (hx := nI_add x0 3)
    have hn : vp_in (nI (64 * f + (8 * y + i))) 256 := tl_inw hf hy (by omega)
    refine tl_plX ⟨hn, ?_⟩
    refine tl_st (64 * f + (8 * y + i)) rfl (by omega) (by decide) (tl_inv P (64 * f) x0 y0 (8 * y + (i + 1))) ?_ (nm_r (tl_cntS hb) (nm_r (nI_1 i) (ih (tl_iq P (64 * f) x0 y0 (8 * y + (i + 1))) ⟨by omega, rfl⟩)))
    rw [nI_clamp (by omega)]
    exact tl_invS hb
theorem tl_ivX {post : Int32 → SX → Prop} {f x0 y0 : Nat} (hf : f < 4) (hx : x0 < 8) (hy : y0 < 8)
    (hp : post (nI (tl_cnt x0 y0 64)) (tl_inv P (64 * f) x0 y0 64, V, O, OV, C, SV, F)) :
    ∃ n, wX_invert_26 post (nI f) (nI x0) (nI y0) n 0 (nI y0) P V O OV C SV F := by
  have e0 : (((0 : Int32), P) : Int32 × (Nat → Int32)) = tl_iq P (64 * f) x0 y0 (8 * y0 + x0) := by
    rw [← tl_iqJ (n := 0) (by omega) (fun i h1 h2 h => by
      obtain ⟨a1, a2, a3, a4⟩ := h
      omega)]
    unfold tl_iq
    rw [tl_inv0]
    rfl
  refine pk_loop (fun n i (q : Int32 × (Nat → Int32)) => wX_invert_26 post (nI f) (nI x0) (nI y0) n q.1 (nI i) q.2 V O OV C SV F) (fun i q => y0 ≤ i ∧ q = tl_iq P (64 * f) x0 y0 (8 * i + x0)) (min (y0 + 3) 8) y0 (0, P) (by omega) ⟨Nat.le_refl _, e0⟩ ?_ ?_
  · intro n q hq
    have e : tl_iq P (64 * f) x0 y0 (8 * min (y0 + 3) 8 + x0) = tl_iq P (64 * f) x0 y0 64 := by
      by_cases h5 : y0 + 3 < 8
      · exact tl_iqJ (by omega) (fun i h1 h2 h => by
          obtain ⟨a1, a2, a3, a4⟩ := h
          omega)
      · exact (tl_iqJ (by omega) (fun i h1 h2 h => by
          obtain ⟨a1, a2, a3, a4⟩ := h
          omega)).symm
    rw [hq.2, e]
    exact pk_le (y0 + 3) (min (y0 + 3) 8) (fun _ => hp) (fun _ => pk_le 8 (min (y0 + 3) 8) (fun _ => hp) (fun h => by omega)) (hx := nI_add y0 3)
  · intro n i q hi hq ih
    obtain ⟨hi0, rfl⟩ := hq
    refine pk_le (y0 + 3) i (fun h => by omega) (fun _ => pk_le 8 i (fun h => by omega) (fun _ => ?_)) (hx := nI_add y0 3)
    exact tl_ivX1 hf hx hi0 (by omega) (by omega) (ih _ ⟨by omega, rfl⟩)
theorem tl_ivY1 {post : Int32 → SY → Prop} {J : Int32 → Int32 → (Nat → Int32) → (Nat → Int32) → (Nat → Int32) → (Nat → Int32) → (Nat → Int32) → (Nat → Int32) → (Nat → Int32) → Prop} {f x0 y0 y : Nat} (hf : f < 4) (hx : x0 < 8) (hy0 : y0 < 8) (hy : y < 8)
    (hJ : J (tl_iq P (64 * f) x0 y0 (8 * (y + 1))).1 (nI (y + 1)) (tl_iq P (64 * f) x0 y0 (8 * (y + 1))).2 O K V OV SV F) :
    ∃ n, wY_invert_45 post J (nI f) (nI x0) (nI y0) (nI y) n (tl_iq P (64 * f) x0 y0 (8 * y)).1 0 (tl_iq P (64 * f) x0 y0 (8 * y)).2 O K V OV SV F := by
  refine loop_0 (fun n i (q : Int32 × (Nat → Int32)) => wY_invert_45 post J (nI f) (nI x0) (nI y0) (nI y) n q.1 (nI i) q.2 O K V OV SV F) (fun i q => q = tl_iq P (64 * f) x0 y0 (8 * y + i)) 8 (tl_iq P (64 * f) x0 y0 (8 * y)) rfl ?_ ?_
  · intro n q hq
    subst hq
    exact br_t tl_le8 (nm_r (nI_1 y) hJ)
  · intro n i q hi hq ih
    subst hq
    have sk : ¬ tl_bx x0 y0 (8 * y + i) → ∀ x : Int32, x = nI i + 1 → wY_invert_45 post J (nI f) (nI x0) (nI y0) (nI y) n (tl_iq P (64 * f) x0 y0 (8 * y + i)).1 x (tl_iq P (64 * f) x0 y0 (8 * y + i)).2 O K V OV SV F := fun hb => nm_r (nI_1 i) (ih _ (tl_iqN hb))
    refine br_f (nI_ge (b := 8) hi (by decide)) (nm_r (tl_pY f y i) ?_)
    refine pk_lt i x0 (fun h => sk (fun hb => by
      obtain ⟨a1, a2, a3, a4⟩ := hb
      omega)) (fun h1 => ?_)
    refine pk_lt (x0 + 2) i (fun h => sk (fun hb => by
      obtain ⟨a1, a2, a3, a4⟩ := hb
      omega)) (fun h2 => ?_) (hx := nI_add x0 2)
    refine pk_lt y y0 (fun h => sk (fun hb => by
      obtain ⟨a1, a2, a3, a4⟩ := hb
      omega)) (fun h3 => ?_)
    refine pk_lt (y0 + 2) y (fun h => sk (fun hb => by
      obtain ⟨a1, a2, a3, a4⟩ := hb
      omega)) (fun h4 => ?_) (hx := nI_add y0 2)
    have hb : tl_bx x0 y0 (8 * y + i) := ⟨by omega, by omega, by omega, by omega⟩
    refine ⟨tl_inw hf hy hi, ?_⟩
    refine tl_st (64 * f + (8 * y + i)) rfl (by omega) (by decide) (tl_inv P (64 * f) x0 y0 (8 * y + (i + 1))) ?_ (nm_r (tl_cntS hb) (nm_r (nI_1 i) (ih (tl_iq P (64 * f) x0 y0 (8 * y + (i + 1))) rfl)))
    rw [nI_clamp (by omega)]
    exact tl_invS hb
theorem tl_ivY {post : Int32 → SY → Prop} {f x0 y0 : Nat} (hf : f < 4) (hx : x0 < 8) (hy : y0 < 8)
    (hp : post (nI (tl_cnt x0 y0 64)) (tl_inv P (64 * f) x0 y0 64, O, K, V, OV, SV, F)) :
    ∃ n, wY_invert_35 post (nI f) (nI x0) (nI y0) n 0 0 P O K V OV SV F := by
  refine loop_0 (fun n i (q : Int32 × (Nat → Int32)) => wY_invert_35 post (nI f) (nI x0) (nI y0) n q.1 (nI i) q.2 O K V OV SV F) (fun i q => q = tl_iq P (64 * f) x0 y0 (8 * i)) 8 (0, P) ?_ ?_ ?_
  · show _ = tl_iq P (64 * f) x0 y0 0
    unfold tl_iq
    rw [tl_inv0]
    rfl
  · intro n q hq
    subst hq
    exact br_t tl_le8 hp
  · intro n i q hi hq ih
    subst hq
    exact br_f (nI_ge (b := 8) hi (by decide)) (tl_ivY1 hf hx hy hi (ih _ rfl))
end
theorem tl_pixinv {P : Nat → Int32} {lo x0 y0 n : Nat} (hP : tl_pix P 256) : tl_pix (tl_inv P lo x0 y0 n) 256 := by
  intro j hj
  unfold tl_inv
  by_cases h2 : (lo ≤ j ∧ j < lo + n) ∧ tl_bx x0 y0 (j - lo)
  · rw [if_pos h2]
    obtain ⟨q, hq, e⟩ := tl_pixN (hP j hj)
    have e2 : 255 - P j = nI (255 - q) := by
      rw [e]
      exact pk_sub (a := 255) (by omega)
    rw [e2]
    exact tl_nIpix (by omega)
  · rw [if_neg h2]
    exact hP j hj
theorem i_vc_invert {k : Nat} {u : SX} {v : SY} (I : i_Rel k u v) (hk : k + 5 ≤ 2560) (v1 : Int32) (v2 : Int32) (v3 : Int32) : wpX_invert (fun r u' => wpY_invert (fun r' v' => r' = r ∧ i_Rel (k + 5) u' v') v v1 v2 v3) u v1 v2 v3 := by
  obtain ⟨P, V, O, OV, C, K, SV, F, rfl, rfl, hP, hO, hK, hE⟩ := I
  unfold wpX_invert wpY_invert
  dsimp only
  rcases tl_ix 4 v1 (by decide) with b1 | ⟨f, hf, rfl⟩
  · exact tl_isF_b b1 (br_t rfl (tl_bF_b b1 (br_f (by decide) ⟨rfl, tl_rel _ hP hO hK hE⟩)))
  refine tl_isF_g hf (br_f (by decide) ?_)
  rcases tl_ix 8 v2 (by decide) with b2 | ⟨x, hx, rfl⟩
  · exact tl_isP_x b2 (br_t rfl (tl_bF_g hf (br_t rfl (tl_bP_b b2 (br_f (by decide) ⟨rfl, tl_rel _ hP hO hK hE⟩)))))
  rcases tl_ix 8 v3 (by decide) with b3 | ⟨y, hy, rfl⟩
  · exact tl_isP_y hx b3 (br_t rfl (tl_bF_g hf (br_t rfl (tl_bP_g hx (br_t rfl (tl_bP_b b3 (br_f (by decide) ⟨rfl, tl_rel _ hP hO hK hE⟩)))))))
  refine tl_isP_g hx hy (br_f (by decide) ?_)
  refine tl_ivX hf hx hy ?_
  refine tl_bF_g hf (br_t rfl (tl_bP_g hx (br_t rfl (tl_bP_g hy (br_t rfl ?_)))))
  refine tl_ivY hf hx hy ?_
  exact ⟨rfl, tl_rel _ (tl_pixinv hP) hO hK hE⟩
