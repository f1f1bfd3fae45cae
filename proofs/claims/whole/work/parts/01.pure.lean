/-! pure pictures: a filled stretch, the clamped pixel, the linked pixel, the guess -/
def tl_fill (P : Nat → Int32) (lo n : Nat) (g : Nat → Int32) : Nat → Int32 := fun j => if lo ≤ j ∧ j < lo + n then g (j - lo) else P j
theorem tl_fill0 (P : Nat → Int32) (lo : Nat) (g : Nat → Int32) : tl_fill P lo 0 g = P := by
  funext j
  exact if_neg (by omega)
theorem tl_fin {P : Nat → Int32} {lo n : Nat} {g : Nat → Int32} {j : Nat} (h1 : lo ≤ j) (h2 : j < lo + n) : tl_fill P lo n g j = g (j - lo) := if_pos ⟨h1, h2⟩
theorem tl_fan {P : Nat → Int32} {lo n : Nat} {g : Nat → Int32} (i : Nat) (h : i < n) : tl_fill P lo n g (lo + i) = g i := by
  rw [tl_fin (by omega) (by omega), Nat.add_sub_cancel_left]
theorem tl_fout {P : Nat → Int32} {lo n : Nat} {g : Nat → Int32} {j : Nat} (h : ¬ (lo ≤ j ∧ j < lo + n)) : tl_fill P lo n g j = P j := if_neg h
theorem tl_fillS {P : Nat → Int32} {lo n : Nat} {g : Nat → Int32} {v : Int32} (hv : v = g n) : upd (tl_fill P lo n g) (lo + n) v = tl_fill P lo (n + 1) g := by
  subst hv
  funext j
  by_cases h : j = lo + n
  · subst h
    rw [pk_us, tl_fan n (by omega)]
  · rw [pk_un h]
    by_cases h2 : lo ≤ j ∧ j < lo + n
    · rw [tl_fin h2.1 h2.2, tl_fin (by omega) (by omega)]
    · rw [tl_fout h2, tl_fout (by omega)]
/-- a pixel: its low byte is itself -/
def tl_pix (P : Nat → Int32) (n : Nat) : Prop := ∀ j, j < n → P j &&& 255 = P j
theorem tl_m255 : (255 : Int32).toBitVec.toNat = 2 ^ 8 - 1 := by decide
theorem tl_m15 : (15 : Int32).toBitVec.toNat = 2 ^ 4 - 1 := by decide
theorem tl_and2 (x : Int32) : (x &&& 255) &&& 255 = x &&& 255 := by
  obtain ⟨j, hj, e⟩ := pk_andE x 8 tl_m255
  rw [e, pk_andN (by omega) 8 tl_m255, Nat.mod_eq_of_lt hj]
theorem tl_pixN {x : Int32} (h : x &&& 255 = x) : ∃ j : Nat, j < 256 ∧ x = nI j := by
  obtain ⟨j, hj, e⟩ := pk_andE x 8 tl_m255
  exact ⟨j, hj, h.symm.trans e⟩
theorem tl_nIpix {j : Nat} (h : j < 256) : nI j &&& 255 = nI j := by
  rw [pk_andN (by omega) 8 tl_m255, Nat.mod_eq_of_lt h]
theorem tl_pixfill {P g : Nat → Int32} {lo n N : Nat} (hP : tl_pix P N) (hg : ∀ i, i < n → g i &&& 255 = g i) : tl_pix (tl_fill P lo n g) N := by
  intro j hj
  by_cases h : lo ≤ j ∧ j < lo + n
  · rw [tl_fin h.1 h.2]
    exact hg _ (by omega)
  · rw [tl_fout h]
    exact hP j hj
/-- what the coder undoes -/
theorem tl_undo (a g : Int32) : (((a - g) &&& 255) + g) &&& 255 = a &&& 255 := by
  have e1 : ((a - g) &&& 255).toBitVec.toNat = (a - g).toBitVec.toNat % 256 := by
    rw [pk_and (a - g) 8 tl_m255]
    exact pk_tn (by omega)
  rw [pk_and (((a - g) &&& 255) + g) 8 tl_m255, pk_and a 8 tl_m255]
  congr 1
  rw [Int32.toBitVec_add, BitVec.toNat_add, e1, Int32.toBitVec_sub, BitVec.toNat_sub]
  have h1 := a.toBitVec.isLt
  have h2 := g.toBitVec.isLt
  omega
/-- the nearest coordinate within 0 .. 7 -/
def tl_cl (z : Int32) : Nat := if 0 ≤ z then (if 8 ≤ z then 7 else z.toNatClampNeg) else 0
theorem tl_cln {z : Int32} (h : ¬ 0 ≤ z) : tl_cl z = 0 := if_neg h
theorem tl_clb {z : Int32} (h0 : 0 ≤ z) (h : 8 ≤ z) : tl_cl z = 7 := by unfold tl_cl; rw [if_pos h0, if_pos h]
theorem tl_cli {j : Nat} (h : j < 8) : tl_cl (nI j) = j := by
  unfold tl_cl
  rw [if_pos (nI_pos' (by omega)), if_neg (show ¬ (8 : Int32) ≤ nI j from nI_ge (b := 8) h (by decide)), nI_clamp (by omega)]
/-- out of range -/
def tl_bad (n : Nat) (z : Int32) : Prop := z < 0 ∨ nI n ≤ z
theorem tl_ix (n : Nat) (z : Int32) (hn : n < 2 ^ 31) : tl_bad n z ∨ ∃ j : Nat, j < n ∧ z = nI j := by
  rcases pk_ix z hn with h | h | h
  · exact Or.inl (Or.inl h)
  · exact Or.inl (Or.inr h)
  · exact Or.inr h
theorem tl_nneg {n : Nat} {z : Int32} (h : nI n ≤ z) (hn : n < 2 ^ 31) : ¬ z < 0 := by
  rw [Int32.le_iff_toInt_le, nI_toInt hn] at h
  rw [Int32.lt_iff_toInt_lt, show (0 : Int32).toInt = 0 from by decide]
  omega
theorem tl_nle {n m : Nat} {z : Int32} (h : nI n ≤ z) (hm : m < n) (hn : n < 2 ^ 31) : ¬ z ≤ nI m := by
  rw [Int32.le_iff_toInt_le, nI_toInt hn] at h
  rw [Int32.le_iff_toInt_le, nI_toInt (by omega)]
  omega
theorem tl_ng0 {z : Int32} (h : ¬ z < 0) : 0 ≤ z := Int32.not_lt.mp h
theorem tl_cases (z : Int32) : (¬ 0 ≤ z ∧ tl_cl z = 0) ∨ (nI 8 ≤ z ∧ 0 ≤ z ∧ tl_cl z = 7) ∨ ∃ j : Nat, j < 8 ∧ z = nI j ∧ tl_cl z = j := by
  rcases pk_ix z (n := 8) (by decide) with h | h | ⟨j, hj, rfl⟩
  · exact Or.inl ⟨Int32.not_le.mpr h, tl_cln (Int32.not_le.mpr h)⟩
  · have h0 : 0 ≤ z := tl_ng0 (tl_nneg h (by decide))
    exact Or.inr (Or.inl ⟨h, h0, tl_clb h0 h⟩)
  · exact Or.inr (Or.inr ⟨j, hj, rfl, tl_cli hj⟩)
theorem tl_cl8 (z : Int32) : tl_cl z < 8 := by
  rcases tl_cases z with h | h | ⟨j, hj, _, h⟩ <;> omega
def tl_at (P : Nat → Int32) (f : Nat) (zx zy : Int32) : Int32 := P (64 * f + (8 * tl_cl zy + tl_cl zx))
def tl_sf (l : Nat) : Nat := if l = 0 then 0 else 2
def tl_pf (l : Nat) : Nat := if l = 2 then 3 else 1
theorem tl_sf4 (l : Nat) : tl_sf l < 4 := by unfold tl_sf; split <;> omega
theorem tl_pf4 (l : Nat) : tl_pf l < 4 := by unfold tl_pf; split <;> omega
def tl_lk (P V : Nat → Int32) (l x y : Nat) : Int32 :=
  tl_at P (tl_sf l) (nI x + (V (4 * l + (2 * (y / 4) + x / 4)) / 5 - 2)) (nI y + (V (4 * l + (2 * (y / 4) + x / 4)) - V (4 * l + (2 * (y / 4) + x / 4)) / 5 * 5 - 2))
def tl_pr (P V : Nat → Int32) (f x y : Nat) : Int32 :=
  if f = 1 then (tl_lk P V 0 x y + tl_lk P V 1 x y) / 2 else if f = 3 then tl_lk P V 2 x y else 0
/-- the guess reads frames 0 and 2 and the twelve steps alone -/
theorem tl_at_c {P Q : Nat → Int32} {f : Nat} (h : ∀ i, i < 64 → P (64 * f + i) = Q (64 * f + i)) (zx zy : Int32) : tl_at P f zx zy = tl_at Q f zx zy := by
  have h1 := tl_cl8 zx
  have h2 := tl_cl8 zy
  exact h _ (by omega)
theorem tl_lk_c {P Q V W : Nat → Int32} {l x y : Nat} (hl : l < 3) (hx : x < 8) (hy : y < 8) (h : ∀ i, i < 64 → P (64 * tl_sf l + i) = Q (64 * tl_sf l + i)) (hV : ∀ i, i < 12 → V i = W i) : tl_lk P V l x y = tl_lk Q W l x y := by
  unfold tl_lk
  rw [hV _ (by omega), tl_at_c h]
theorem tl_pr_c {P Q V W : Nat → Int32} {f x y : Nat} (hx : x < 8) (hy : y < 8) (h0 : f = 1 → ∀ i, i < 64 → P i = Q i) (h2 : f = 1 ∨ f = 3 → ∀ i, i < 64 → P (128 + i) = Q (128 + i)) (hV : ∀ i, i < 12 → V i = W i) : tl_pr P V f x y = tl_pr Q W f x y := by
  unfold tl_pr
  by_cases f1 : f = 1
  · have e0 : tl_lk P V 0 x y = tl_lk Q W 0 x y := tl_lk_c (by omega) hx hy (fun i hi => by
      have e : 64 * tl_sf 0 + i = i := Nat.zero_add i
      rw [e]
      exact h0 f1 i hi) hV
    have e1 : tl_lk P V 1 x y = tl_lk Q W 1 x y := tl_lk_c (by omega) hx hy (h2 (Or.inl f1)) hV
    rw [if_pos f1, if_pos f1, e0, e1]
  · rw [if_neg f1, if_neg f1]
    by_cases f3 : f = 3
    · rw [if_pos f3, if_pos f3, tl_lk_c (l := 2) (by omega) hx hy (h2 (Or.inr f3)) hV]
    · rw [if_neg f3, if_neg f3]
def tl_enc (C K SV : Nat → Int32) : Prop := ∀ s f y x, s < 2 → f < 4 → y < 8 → x < 8 → C (256 * s + (64 * f + (8 * y + x))) = (K (256 * s + (64 * f + (8 * y + x))) - tl_pr (fun j => K (256 * s + j)) (fun j => SV (12 * s + j)) f x y) &&& 255
/-- the relation: work, shown pixels, both vectors, the kept vectors and the marks are the same on both sides; the coded pixels code what the reference keeps -/
def i_Rel (_ : Nat) (u : SX) (v : SY) : Prop := ∃ P V O OV C K SV F : Nat → Int32, u = (P, V, O, OV, C, SV, F) ∧ v = (P, O, K, V, OV, SV, F) ∧ tl_pix P 256 ∧ tl_pix O 256 ∧ tl_pix K 512 ∧ tl_enc C K SV
theorem i_up {k : Nat} {u : SX} {v : SY} (h : i_Rel k u v) : i_Rel (k + 5) u v := h
