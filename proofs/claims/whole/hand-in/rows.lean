section
theorem pk_us {f : Nat → Int32} {k : Nat} {x : Int32} : upd f k x k = x := if_pos rfl
theorem pk_un {f : Nat → Int32} {k j : Nat} {x : Int32} (h : j ≠ k) : upd f k x j = f j := if_neg h
theorem pk_sub {a b : Nat} (h : b ≤ a) : nI a - nI b = nI (a - b) := by
  obtain ⟨c, rfl⟩ : ∃ c, a = c + b := ⟨a - b, by omega⟩
  rw [← nI_add, Int32.add_sub_cancel, Nat.add_sub_cancel]
theorem pk_mul (a b : Nat) : nI a * nI b = nI (a * b) := (Int32.ofNat_mul a b).symm
theorem pk_div {a d : Nat} (ha : a < 2 ^ 31) (h0 : 0 < d) (hd : d < 2 ^ 31) : nI a / nI d = nI (a / d) := by
  apply Int32.toInt_inj.mp
  rw [lg_idiv_nonneg (by rw [nI_toInt ha]; omega) (by rw [nI_toInt hd]; omega), nI_toInt ha, nI_toInt hd, nI_toInt (Nat.lt_of_le_of_lt (Nat.div_le_self a d) ha)]
  first | rfl | exact (Int.natCast_ediv _ _).symm
theorem pk_rem {a d : Nat} (ha : a < 2 ^ 31) (h0 : 0 < d) (hd : d < 2 ^ 31) : nI a - nI a / nI d * nI d = nI (a % d) := by
  rw [pk_div ha h0 hd, pk_mul, pk_sub (Nat.div_mul_le_self a d)]
  exact congrArg nI (by have := Nat.div_add_mod' a d; omega)
theorem pk_sub_toInt {a b : Nat} (ha : a < 2 ^ 30) (hb : b < 2 ^ 30) : (nI a - nI b).toInt = (a : Int) - b := by
  rw [Int32.toInt_sub, nI_toInt (by omega), nI_toInt (by omega)]
  exact Int.bmod_eq_of_le (by omega) (by omega)
theorem pk_ix (x : Int32) {n : Nat} (hn : n < 2 ^ 31) : x < 0 ∨ nI n ≤ x ∨ ∃ j : Nat, j < n ∧ x = nI j := by
  by_cases h : x < 0
  · exact Or.inl h
  · obtain ⟨j, hj, rfl⟩ := nI_of h
    by_cases h2 : j < n
    · exact Or.inr (Or.inr ⟨j, h2, rfl⟩)
    · exact Or.inr (Or.inl (nI_le (by omega) hj))
theorem pk_le {x y : Int32} {A B : Prop} (a b : Nat) (f : a ≤ b → A) (g : b < a → B) (hx : x = nI a := by rfl) (hy : y = nI b := by rfl) (ha : a < 2 ^ 31 := by omega) (hb : b < 2 ^ 31 := by omega) : (x ≤ y → A) ∧ (¬ x ≤ y → B) := by
  subst hx hy
  rw [nI_leI ha hb]
  exact ⟨f, fun z => g (by omega)⟩
theorem pk_lt {x y : Int32} {A B : Prop} (a b : Nat) (f : a < b → A) (g : b ≤ a → B) (hx : x = nI a := by rfl) (hy : y = nI b := by rfl) (ha : a < 2 ^ 31 := by omega) (hb : b < 2 ^ 31 := by omega) : (x < y → A) ∧ (¬ x < y → B) := by
  subst hx hy
  rw [nI_ltI ha hb]
  exact ⟨f, fun z => g (by omega)⟩
theorem pk_eq {x y : Int32} {A B : Prop} (a b : Nat) (f : a = b → A) (g : a ≠ b → B) (hx : x = nI a := by rfl) (hy : y = nI b := by rfl) (ha : a < 2 ^ 31 := by omega) (hb : b < 2 ^ 31 := by omega) : (x = y → A) ∧ (¬ x = y → B) := by
  subst hx hy
  rw [nI_eq ha hb]
  exact ⟨f, g⟩
theorem pk_in {x : Int32} (n N : Nat) (h : n < N) (hx : x = nI n := by rfl) (hN : N < 2 ^ 31 := by omega) : vp_in x N := by
  subst hx
  exact vp_in_nI h hN
theorem pk_cl {x : Int32} (n : Nat) (hx : x = nI n := by rfl) (h : n < 2 ^ 31 := by omega) : x.toNatClampNeg = n := by
  subst hx
  exact nI_clamp h
theorem pk_tn {n : Nat} (h : n < 2 ^ 32) : (nI n).toBitVec.toNat = n := Nat.mod_eq_of_lt h
theorem pk_and (x : Int32) {m : Int32} (k : Nat) (hm : m.toBitVec.toNat = 2 ^ k - 1) : x &&& m = nI (x.toBitVec.toNat % 2 ^ k) := by
  apply Int32.toBitVec_inj.mp
  apply BitVec.eq_of_toNat_eq
  rw [Int32.toBitVec_and, BitVec.toNat_and, hm, Nat.and_two_pow_sub_one_eq_mod]
  show _ = (BitVec.ofNat 32 _).toNat
  rw [BitVec.toNat_ofNat]
  exact (Nat.mod_eq_of_lt (Nat.lt_of_le_of_lt (Nat.mod_le _ _) x.toBitVec.isLt)).symm
theorem pk_andN {n : Nat} (h : n < 2 ^ 32) {m : Int32} (k : Nat) (hm : m.toBitVec.toNat = 2 ^ k - 1) : nI n &&& m = nI (n % 2 ^ k) := by
  rw [pk_and _ k hm, pk_tn h]
theorem pk_andE (x : Int32) {m : Int32} (k : Nat) (hm : m.toBitVec.toNat = 2 ^ k - 1) : ∃ j : Nat, j < 2 ^ k ∧ x &&& m = nI j := ⟨_, Nat.mod_lt _ (Nat.two_pow_pos k), pk_and x k hm⟩
theorem pk_loop {σ : Type} (W : Nat → Nat → σ → Prop) (I : Nat → σ → Prop) (e i0 : Nat) (s : σ) (hi : i0 ≤ e) (h0 : I i0 s) (hx : ∀ n s, I e s → W (n + 1) e s)
    (hs : ∀ n i s, i < e → I i s → (∀ s', I (i + 1) s' → W n (i + 1) s') → W (n + 1) i s) : ∃ n, W n i0 s :=
  ⟨e + 1, loop_i W I e hx hs (e + 1) i0 s hi (by omega) h0⟩
end
section
/-! pure pictures: a filled stretch, the clamped pixel, the linked pixel, the guess -/
def tl_fill (P : Nat → Int32) (lo n : Nat) (g : Nat → Int32) : Nat → Int32 := fun j => if lo ≤ j ∧ j < lo + n then g (j - lo) else P j
theorem tl_fill0 (P : Nat → Int32) (lo : Nat) (g : Nat → Int32) : tl_fill P lo 0 g = P := by
  funext j
  exact if_neg (by omega)
theorem tl_fin {P : Nat → Int32} {lo n : Nat} {g : Nat → Int32} {j : Nat} (h1 : lo ≤ j) (h2 : j < lo + n) : tl_fill P lo n g j = g (j - lo) := if_pos ⟨h1, h2⟩
theorem tl_fan {P : Nat → Int32} {lo n : Nat} {g : Nat → Int32} (i : Nat) (h : i < n) : tl_fill P lo n g (lo + i) = g i := by
  rw [tl_fin (by omega) (by omega), Nat.add_sub_cancel_left]
theorem tl_fout {P : Nat → Int32} {lo n : Nat} {g : Nat → Int32} {j : Nat} (h : ¬ (lo ≤ j ∧ j < lo + n)) : tl_fill P lo n g j = P j := if_neg h
theorem tl_fillS {P : Nat → Int32} {lo n : Nat} {g : Nat → Int32} {v : Int32} (hv : v = g n) : upd (tl_fill P lo n g) (lo + n) v = tl_fill P lo (n + 1) g := by
  subst hv
  funext j
  by_cases h : j = lo + n
  · subst h
    rw [pk_us, tl_fan n (by omega)]
  · rw [pk_un h]
    by_cases h2 : lo ≤ j ∧ j < lo + n
    · rw [tl_fin h2.1 h2.2, tl_fin (by omega) (by omega)]
    · rw [tl_fout h2, tl_fout (by omega)]
/-- a pixel: its low byte is itself -/
def tl_pix (P : Nat → Int32) (n : Nat) : Prop := ∀ j, j < n → P j &&& 255 = P j
theorem tl_m255 : (255 : Int32).toBitVec.toNat = 2 ^ 8 - 1 := by decide
theorem tl_m15 : (15 : Int32).toBitVec.toNat = 2 ^ 4 - 1 := by decide
theorem tl_and2 (x : Int32) : (x &&& 255) &&& 255 = x &&& 255 := by
  obtain ⟨j, hj, e⟩ := pk_andE x 8 tl_m255
  rw [e, pk_andN (by omega) 8 tl_m255, Nat.mod_eq_of_lt hj]
theorem tl_pixN {x : Int32} (h : x &&& 255 = x) : ∃ j : Nat, j < 256 ∧ x = nI j := by
  obtain ⟨j, hj, e⟩ := pk_andE x 8 tl_m255
  exact ⟨j, hj, h.symm.trans e⟩
theorem tl_nIpix {j : Nat} (h : j < 256) : nI j &&& 255 = nI j := by
  rw [pk_andN (by omega) 8 tl_m255, Nat.mod_eq_of_lt h]
theorem tl_pixfill {P g : Nat → Int32} {lo n N : Nat} (hP : tl_pix P N) (hg : ∀ i, i < n → g i &&& 255 = g i) : tl_pix (tl_fill P lo n g) N := by
  intro j hj
  by_cases h : lo ≤ j ∧ j < lo + n
  · rw [tl_fin h.1 h.2]
    exact hg _ (by omega)
  · rw [tl_fout h]
    exact hP j hj
/-- what the coder undoes -/
theorem tl_undo (a g : Int32) : (((a - g) &&& 255) + g) &&& 255 = a &&& 255 := by
  have e1 : ((a - g) &&& 255).toBitVec.toNat = (a - g).toBitVec.toNat % 256 := by
    rw [pk_and (a - g) 8 tl_m255]
    exact pk_tn (by omega)
  rw [pk_and (((a - g) &&& 255) + g) 8 tl_m255, pk_and a 8 tl_m255]
  congr 1
  rw [Int32.toBitVec_add, BitVec.toNat_add, e1, Int32.toBitVec_sub, BitVec.toNat_sub]
  have h1 := a.toBitVec.isLt
  have h2 := g.toBitVec.isLt
  omega
/-- the nearest coordinate within 0 .. 7 -/
def tl_cl (z : Int32) : Nat := if 0 ≤ z then (if 8 ≤ z then 7 else z.toNatClampNeg) else 0
theorem tl_cln {z : Int32} (h : ¬ 0 ≤ z) : tl_cl z = 0 := if_neg h
theorem tl_clb {z : Int32} (h0 : 0 ≤ z) (h : 8 ≤ z) : tl_cl z = 7 := by unfold tl_cl; rw [if_pos h0, if_pos h]
theorem tl_cli {j : Nat} (h : j < 8) : tl_cl (nI j) = j := by
  unfold tl_cl
  rw [if_pos (nI_pos' (by omega)), if_neg (show ¬ (8 : Int32) ≤ nI j from nI_ge (b := 8) h (by decide)), nI_clamp (by omega)]
/-- out of range -/
def tl_bad (n : Nat) (z : Int32) : Prop := z < 0 ∨ nI n ≤ z
theorem tl_ix (n : Nat) (z : Int32) (hn : n < 2 ^ 31) : tl_bad n z ∨ ∃ j : Nat, j < n ∧ z = nI j := by
  rcases pk_ix z hn with h | h | h
  · exact Or.inl (Or.inl h)
  · exact Or.inl (Or.inr h)
  · exact Or.inr h
theorem tl_nneg {n : Nat} {z : Int32} (h : nI n ≤ z) (hn : n < 2 ^ 31) : ¬ z < 0 := by
  rw [Int32.le_iff_toInt_le, nI_toInt hn] at h
  rw [Int32.lt_iff_toInt_lt, show (0 : Int32).toInt = 0 from by decide]
  omega
theorem tl_nle {n m : Nat} {z : Int32} (h : nI n ≤ z) (hm : m < n) (hn : n < 2 ^ 31) : ¬ z ≤ nI m := by
  rw [Int32.le_iff_toInt_le, nI_toInt hn] at h
  rw [Int32.le_iff_toInt_le, nI_toInt (by omega)]
  omega
theorem tl_ng0 {z : Int32} (h : ¬ z < 0) : 0 ≤ z := Int32.not_lt.mp h
theorem tl_cases (z : Int32) : (¬ 0 ≤ z ∧ tl_cl z = 0) ∨ (nI 8 ≤ z ∧ 0 ≤ z ∧ tl_cl z = 7) ∨ ∃ j : Nat, j < 8 ∧ z = nI j ∧ tl_cl z = j := by
  rcases pk_ix z (n := 8) (by decide) with h | h | ⟨j, hj, rfl⟩
  · exact Or.inl ⟨Int32.not_le.mpr h, tl_cln (Int32.not_le.mpr h)⟩
  · have h0 : 0 ≤ z := tl_ng0 (tl_nneg h (by decide))
    exact Or.inr (Or.inl ⟨h, h0, tl_clb h0 h⟩)
  · exact Or.inr (Or.inr ⟨j, hj, rfl, tl_cli hj⟩)
theorem tl_cl8 (z : Int32) : tl_cl z < 8 := by
  rcases tl_cases z with h | h | ⟨j, hj, _, h⟩ <;> omega
def tl_at (P : Nat → Int32) (f : Nat) (zx zy : Int32) : Int32 := P (64 * f + (8 * tl_cl zy + tl_cl zx))
def tl_sf (l : Nat) : Nat := if l = 0 then 0 else 2
def tl_pf (l : Nat) : Nat := if l = 2 then 3 else 1
theorem tl_sf4 (l : Nat) : tl_sf l < 4 := by unfold tl_sf; split <;> omega
theorem tl_pf4 (l : Nat) : tl_pf l < 4 := by unfold tl_pf; split <;> omega
def tl_lk (P V : Nat → Int32) (l x y : Nat) : Int32 :=
  tl_at P (tl_sf l) (nI x + (V (4 * l + (2 * (y / 4) + x / 4)) / 5 - 2)) (nI y + (V (4 * l + (2 * (y / 4) + x / 4)) - V (4 * l + (2 * (y / 4) + x / 4)) / 5 * 5 - 2))
def tl_pr (P V : Nat → Int32) (f x y : Nat) : Int32 :=
  if f = 1 then (tl_lk P V 0 x y + tl_lk P V 1 x y) / 2 else if f = 3 then tl_lk P V 2 x y else 0
/-- the guess reads frames 0 and 2 and the twelve steps alone -/
theorem tl_at_c {P Q : Nat → Int32} {f : Nat} (h : ∀ i, i < 64 → P (64 * f + i) = Q (64 * f + i)) (zx zy : Int32) : tl_at P f zx zy = tl_at Q f zx zy := by
  have h1 := tl_cl8 zx
  have h2 := tl_cl8 zy
  exact h _ (by omega)
theorem tl_lk_c {P Q V W : Nat → Int32} {l x y : Nat} (hl : l < 3) (hx : x < 8) (hy : y < 8) (h : ∀ i, i < 64 → P (64 * tl_sf l + i) = Q (64 * tl_sf l + i)) (hV : ∀ i, i < 12 → V i = W i) : tl_lk P V l x y = tl_lk Q W l x y := by
  unfold tl_lk
  rw [hV _ (by omega), tl_at_c h]
theorem tl_pr_c {P Q V W : Nat → Int32} {f x y : Nat} (hx : x < 8) (hy : y < 8) (h0 : f = 1 → ∀ i, i < 64 → P i = Q i) (h2 : f = 1 ∨ f = 3 → ∀ i, i < 64 → P (128 + i) = Q (128 + i)) (hV : ∀ i, i < 12 → V i = W i) : tl_pr P V f x y = tl_pr Q W f x y := by
  unfold tl_pr
  by_cases f1 : f = 1
  · have e0 : tl_lk P V 0 x y = tl_lk Q W 0 x y := tl_lk_c (by omega) hx hy (fun i hi => by
      have e : 64 * tl_sf 0 + i = i := Nat.zero_add i
      rw [e]
      exact h0 f1 i hi) hV
    have e1 : tl_lk P V 1 x y = tl_lk Q W 1 x y := tl_lk_c (by omega) hx hy (h2 (Or.inl f1)) hV
    rw [if_pos f1, if_pos f1, e0, e1]
  · rw [if_neg f1, if_neg f1]
    by_cases f3 : f = 3
    · rw [if_pos f3, if_pos f3, tl_lk_c (l := 2) (by omega) hx hy (h2 (Or.inr f3)) hV]
    · rw [if_neg f3, if_neg f3]
def tl_enc (C K SV : Nat → Int32) : Prop := ∀ s f y x, s < 2 → f < 4 → y < 8 → x < 8 → C (256 * s + (64 * f + (8 * y + x))) = (K (256 * s + (64 * f + (8 * y + x))) - tl_pr (fun j => K (256 * s + j)) (fun j => SV (12 * s + j)) f x y) &&& 255
/-- the relation: work, shown pixels, both vectors, the kept vectors and the marks are the same on both sides; the coded pixels code what the reference keeps -/
def i_Rel (_ : Nat) (u : SX) (v : SY) : Prop := ∃ P V O OV C K SV F : Nat → Int32, u = (P, V, O, OV, C, SV, F) ∧ v = (P, O, K, V, OV, SV, F) ∧ tl_pix P 256 ∧ tl_pix O 256 ∧ tl_pix K 512 ∧ tl_enc C K SV
theorem i_up {k : Nat} {u : SX} {v : SY} (h : i_Rel k u v) : i_Rel (k + 5) u v := h
end
section
/-! stores and counters -/
theorem tl_st {N : Nat} {Q : Nat → Int32} {i v : Int32} {A : (Nat → Int32) → Prop} (k : Nat) (hi : i = nI k) (hk : k < N) (hN : N < 2 ^ 31) (Q' : Nat → Int32) (hQ : upd Q k v = Q') (h : A Q') : vp_in i N ∧ ∀ a : Nat → Int32, a = upd Q i.toNatClampNeg v → A a := by
  subst hi
  refine ⟨vp_in_nI hk hN, fun a ha => ?_⟩
  rw [nI_clamp (by omega), hQ] at ha
  rw [ha]
  exact h
theorem tl_rd {N : Nat} {Q : Nat → Int32} {i : Int32} {A : Int32 → Prop} (k : Nat) (hi : i = nI k) (hk : k < N) (hN : N < 2 ^ 31) (h : A (Q k)) : vp_in i N ∧ A (Q i.toNatClampNeg) := by
  subst hi
  refine ⟨vp_in_nI hk hN, ?_⟩
  rw [nI_clamp (by omega)]
  exact h
theorem tl_pX (f y x : Nat) : nI f * 64 + nI y * 8 + nI x = nI (64 * f + (8 * y + x)) := by
  show nI f * nI 64 + nI y * nI 8 + nI x = _
  rw [pk_mul, pk_mul, nI_add, nI_add]
  exact congrArg nI (by omega)
theorem tl_pY (f y x : Nat) : 64 * nI f + 8 * nI y + nI x = nI (64 * f + (8 * y + x)) := by
  show nI 64 * nI f + nI 8 * nI y + nI x = _
  rw [pk_mul, pk_mul, nI_add, nI_add]
  exact congrArg nI (by omega)
theorem tl_mX (c a b : Nat) : nI a * nI c + nI b = nI (c * a + b) := by
  rw [pk_mul, nI_add, Nat.mul_comm]
theorem tl_mY (c a b : Nat) : nI c * nI a + nI b = nI (c * a + b) := by
  rw [pk_mul, nI_add]
theorem tl_X4 (a b : Nat) : nI a * 4 + nI b = nI (4 * a + b) := tl_mX 4 a b
theorem tl_Y4 (a b : Nat) : 4 * nI a + nI b = nI (4 * a + b) := tl_mY 4 a b
theorem tl_X12 (a b : Nat) : nI a * 12 + nI b = nI (12 * a + b) := tl_mX 12 a b
theorem tl_Y12 (a b : Nat) : 12 * nI a + nI b = nI (12 * a + b) := tl_mY 12 a b
theorem tl_X64 (a b : Nat) : nI a * 64 + nI b = nI (64 * a + b) := tl_mX 64 a b
theorem tl_Y64 (a b : Nat) : 64 * nI a + nI b = nI (64 * a + b) := tl_mY 64 a b
theorem tl_X256 (a b : Nat) : nI a * 256 + nI b = nI (256 * a + b) := tl_mX 256 a b
theorem tl_Y256 (a b : Nat) : 256 * nI a + nI b = nI (256 * a + b) := tl_mY 256 a b
theorem tl_plX {post : Int32 → Prop} {f x y : Nat} (h : post (nI (64 * f + (8 * y + x)))) : wpX_placeOf post (nI f) (nI x) (nI y) := by
  unfold wpX_placeOf
  rw [tl_pX]
  exact h
/-! the leaves of X -/
theorem tl_isF_b {post : Int32 → Prop} {z : Int32} (h : tl_bad 4 z) (hp : post 0) : wpX_isFrame post z := by
  rcases h with h | h
  · exact br_t h hp
  · exact br_f (tl_nneg h (by decide)) (br_t h hp)
theorem tl_isF_g {post : Int32 → Prop} {f : Nat} (h : f < 4) (hp : post 1) : wpX_isFrame post (nI f) :=
  br_f (nI_pos (by omega)) (br_f (nI_ge (b := 4) h (by decide)) hp)
theorem tl_isS_b {post : Int32 → Prop} {z : Int32} (h : tl_bad 2 z) (hp : post 0) : wpX_isSlot post z := by
  rcases h with h | h
  · exact br_t h hp
  · exact br_f (tl_nneg h (by decide)) (br_t h hp)
theorem tl_isS_g {post : Int32 → Prop} {f : Nat} (h : f < 2) (hp : post 1) : wpX_isSlot post (nI f) :=
  br_f (nI_pos (by omega)) (br_f (nI_ge (b := 2) h (by decide)) hp)
theorem tl_isP_x {post : Int32 → Prop} {z w : Int32} (h : tl_bad 8 z) (hp : post 0) : wpX_isPosition post z w := by
  rcases h with h | h
  · exact br_t h hp
  · exact br_f (tl_nneg h (by decide)) (br_t h hp)
theorem tl_isP_y {post : Int32 → Prop} {x : Nat} {w : Int32} (hx : x < 8) (h : tl_bad 8 w) (hp : post 0) : wpX_isPosition post (nI x) w := by
  refine br_f (nI_pos (by omega)) (br_f (nI_ge (b := 8) hx (by decide)) ?_)
  rcases h with h | h
  · exact br_t h hp
  · exact br_f (tl_nneg h (by decide)) (br_t h hp)
theorem tl_isP_g {post : Int32 → Prop} {x y : Nat} (hx : x < 8) (hy : y < 8) (hp : post 1) : wpX_isPosition post (nI x) (nI y) :=
  br_f (nI_pos (by omega)) (br_f (nI_ge (b := 8) hx (by decide)) (br_f (nI_pos (by omega)) (br_f (nI_ge (b := 8) hy (by decide)) hp)))
theorem tl_bR_l {post : Int32 → Prop} {z w : Int32} (h : tl_bad 3 z) (hp : post (-1)) : wpX_blockRefusal post z w := by
  rcases h with h | h
  · exact br_t h hp
  · exact br_f (tl_nneg h (by decide)) (br_f (Int32.not_lt.mpr h) hp)
theorem tl_bR_b {post : Int32 → Prop} {l : Nat} {w : Int32} (hl : l < 3) (h : tl_bad 4 w) (hp : post (-2)) : wpX_blockRefusal post (nI l) w := by
  refine br_f (nI_pos (by omega)) (br_t (nI_lt (b := 3) hl (by decide)) ?_)
  rcases h with h | h
  · exact br_t h hp
  · exact br_f (tl_nneg h (by decide)) (br_f (Int32.not_lt.mpr h) hp)
theorem tl_bR_g {post : Int32 → Prop} {l b : Nat} (hl : l < 3) (hb : b < 4) (hp : post 0) : wpX_blockRefusal post (nI l) (nI b) :=
  br_f (nI_pos (by omega)) (br_t (nI_lt (b := 3) hl (by decide)) (br_f (nI_pos (by omega)) (br_t (nI_lt (b := 4) hb (by decide)) hp)))
theorem tl_vR_l {post : Int32 → Prop} {z w s : Int32} (h : tl_bad 3 z) (hp : post (-1)) : wpX_vectorRefusal post z w s :=
  tl_bR_l h (br_f (by decide) hp)
theorem tl_vR_b {post : Int32 → Prop} {l : Nat} {w s : Int32} (hl : l < 3) (h : tl_bad 4 w) (hp : post (-2)) : wpX_vectorRefusal post (nI l) w s :=
  tl_bR_b hl h (br_f (by decide) hp)
theorem tl_vR_s {post : Int32 → Prop} {l b : Nat} {s : Int32} (hl : l < 3) (hb : b < 4) (h : tl_bad 25 s) (hp : post (-3)) : wpX_vectorRefusal post (nI l) (nI b) s := by
  refine tl_bR_g hl hb (br_t rfl ?_)
  rcases h with h | h
  · exact br_t h hp
  · exact br_f (tl_nneg h (by decide)) (br_f (Int32.not_lt.mpr h) hp)
theorem tl_vR_g {post : Int32 → Prop} {l b s : Nat} (hl : l < 3) (hb : b < 4) (hs : s < 25) (hp : post 0) : wpX_vectorRefusal post (nI l) (nI b) (nI s) :=
  tl_bR_g hl hb (br_t rfl (br_f (nI_pos (by omega)) (br_t (nI_lt (b := 25) hs (by decide)) hp)))
theorem tl_wi {post : Int32 → Prop} {z : Int32} (hp : post (nI (tl_cl z))) : wpX_within post z := by
  rcases tl_cases z with ⟨h, e⟩ | ⟨h, h0, e⟩ | ⟨j, hj, ez, e⟩
  · rw [e] at hp
    exact br_f h hp
  · rw [e] at hp
    exact br_t h0 (br_t h hp)
  · rw [e] at hp
    subst ez
    exact br_t (nI_pos' (by omega)) (br_f (nI_ge (b := 8) hj (by decide)) hp)
theorem tl_neW {post : Int32 → Prop} {P V O OV C SV F : Nat → Int32} {f : Nat} {zx zy : Int32} (hf : f < 4) (hp : post (tl_at P f zx zy)) : wpX_nearest__workPixels post (P, V, O, OV, C, SV, F) (nI f) zx zy := by
  have h1 := tl_cl8 zx
  have h2 := tl_cl8 zy
  unfold wpX_nearest__workPixels
  dsimp only
  refine tl_wi ?_
  refine tl_wi ?_
  exact (tl_rd (N := 256) (Q := P) (A := post) (64 * f + (8 * tl_cl zy + tl_cl zx)) (tl_pX f (tl_cl zy) (tl_cl zx)) (by omega) (by decide) hp)
theorem tl_neO {post : Int32 → Prop} {P V O OV C SV F : Nat → Int32} {f : Nat} {zx zy : Int32} (hf : f < 4) (hp : post (tl_at O f zx zy)) : wpX_nearest__outPixels post (P, V, O, OV, C, SV, F) (nI f) zx zy := by
  have h1 := tl_cl8 zx
  have h2 := tl_cl8 zy
  unfold wpX_nearest__outPixels
  dsimp only
  refine tl_wi ?_
  refine tl_wi ?_
  exact (tl_rd (N := 256) (Q := O) (A := post) (64 * f + (8 * tl_cl zy + tl_cl zx)) (tl_pX f (tl_cl zy) (tl_cl zx)) (by omega) (by decide) hp)
def tl_sz (z : Int32) : Int32 := if 0 ≤ z then z else -z
theorem tl_szX {post : Int32 → Prop} {z : Int32} (hp : post (tl_sz z)) : wpX_size post z := by
  by_cases h : 0 ≤ z
  · rw [show tl_sz z = z from if_pos h] at hp
    exact br_t h hp
  · rw [show tl_sz z = -z from if_neg h] at hp
    exact br_f h hp
theorem tl_pfX {post : Int32 → Prop} {l : Nat} (hl : l < 3) (hp : post (nI (tl_pf l))) : wpX_predictedFrame post (nI l) := by
  by_cases h : l = 2
  · subst h
    exact br_t rfl hp
  · rw [show tl_pf l = 1 from if_neg h] at hp
    exact br_f (fun e => h ((nI_eq (b := 2) (by omega) (by decide)).mp e)) hp
theorem tl_sfX {post : Int32 → Prop} {l : Nat} (hl : l < 3) (hp : post (nI (tl_sf l))) : wpX_sourceFrame post (nI l) := by
  by_cases h : l = 0
  · subst h
    exact br_t rfl hp
  · rw [show tl_sf l = 2 from if_neg h] at hp
    exact br_f (fun e => h ((nI_eq (b := 0) (by omega) (by decide)).mp e)) hp
/-! the leaves of Y -/
theorem tl_bF_b {post : Int32 → Prop} {P O K V OV SV F : Nat → Int32} {z : Int32} (h : tl_bad 4 z) (hp : post 1) : wpY_badFrame post (P, O, K, V, OV, SV, F) z := by
  rcases h with h | h
  · exact br_t h hp
  · exact br_f (tl_nneg h (by decide)) (br_f (tl_nle (m := 3) h (by decide) (by decide)) hp)
theorem tl_bF_g {post : Int32 → Prop} {P O K V OV SV F : Nat → Int32} {f : Nat} (h : f < 4) (hp : post 0) : wpY_badFrame post (P, O, K, V, OV, SV, F) (nI f) :=
  br_f (nI_pos (by omega)) (br_t (nI_le (b := 3) (by omega) (by decide)) hp)
theorem tl_bP_b {post : Int32 → Prop} {P O K V OV SV F : Nat → Int32} {z : Int32} (h : tl_bad 8 z) (hp : post 1) : wpY_badPlace post (P, O, K, V, OV, SV, F) z := by
  rcases h with h | h
  · exact br_t h hp
  · exact br_f (tl_nneg h (by decide)) (br_f (tl_nle (m := 7) h (by decide) (by decide)) hp)
theorem tl_bP_g {post : Int32 → Prop} {P O K V OV SV F : Nat → Int32} {f : Nat} (h : f < 8) (hp : post 0) : wpY_badPlace post (P, O, K, V, OV, SV, F) (nI f) :=
  br_f (nI_pos (by omega)) (br_t (nI_le (b := 7) (by omega) (by decide)) hp)
theorem tl_bS_b {post : Int32 → Prop} {P O K V OV SV F : Nat → Int32} {z : Int32} (h : tl_bad 2 z) (hp : post 1) : wpY_badSlot post (P, O, K, V, OV, SV, F) z := by
  rcases h with h | h
  · exact br_t h hp
  · exact br_f (tl_nneg h (by decide)) (br_f (tl_nle (m := 1) h (by decide) (by decide)) hp)
theorem tl_bS_g {post : Int32 → Prop} {P O K V OV SV F : Nat → Int32} {f : Nat} (h : f < 2) (hp : post 0) : wpY_badSlot post (P, O, K, V, OV, SV, F) (nI f) :=
  br_f (nI_pos (by omega)) (br_t (nI_le (b := 1) (by omega) (by decide)) hp)
theorem tl_bL_b {post : Int32 → Prop} {P O K V OV SV F : Nat → Int32} {z : Int32} (h : tl_bad 3 z) (hp : post 1) : wpY_badLink post (P, O, K, V, OV, SV, F) z := by
  rcases h with h | h
  · exact br_t h hp
  · exact br_f (tl_nneg h (by decide)) (br_f (tl_nle (m := 2) h (by decide) (by decide)) hp)
theorem tl_bL_g {post : Int32 → Prop} {P O K V OV SV F : Nat → Int32} {f : Nat} (h : f < 3) (hp : post 0) : wpY_badLink post (P, O, K, V, OV, SV, F) (nI f) :=
  br_f (nI_pos (by omega)) (br_t (nI_le (b := 2) (by omega) (by decide)) hp)
theorem tl_bB_b {post : Int32 → Prop} {P O K V OV SV F : Nat → Int32} {z : Int32} (h : tl_bad 4 z) (hp : post 1) : wpY_badBlock post (P, O, K, V, OV, SV, F) z := by
  rcases h with h | h
  · exact br_t h hp
  · exact br_f (tl_nneg h (by decide)) (br_f (tl_nle (m := 3) h (by decide) (by decide)) hp)
theorem tl_bB_g {post : Int32 → Prop} {P O K V OV SV F : Nat → Int32} {f : Nat} (h : f < 4) (hp : post 0) : wpY_badBlock post (P, O, K, V, OV, SV, F) (nI f) :=
  br_f (nI_pos (by omega)) (br_t (nI_le (b := 3) (by omega) (by decide)) hp)
theorem tl_bT_b {post : Int32 → Prop} {P O K V OV SV F : Nat → Int32} {z : Int32} (h : tl_bad 25 z) (hp : post 1) : wpY_badStep post (P, O, K, V, OV, SV, F) z := by
  rcases h with h | h
  · exact br_t h hp
  · exact br_f (tl_nneg h (by decide)) (br_f (tl_nle (m := 24) h (by decide) (by decide)) hp)
theorem tl_bT_g {post : Int32 → Prop} {P O K V OV SV F : Nat → Int32} {f : Nat} (h : f < 25) (hp : post 0) : wpY_badStep post (P, O, K, V, OV, SV, F) (nI f) :=
  br_f (nI_pos (by omega)) (br_t (nI_le (b := 24) (by omega) (by decide)) hp)
theorem tl_nY {post : Int32 → Prop} {P O K V OV SV F : Nat → Int32} {z : Int32} (hp : post (nI (tl_cl z))) : wpY_nearest post (P, O, K, V, OV, SV, F) z := by
  rcases tl_cases z with ⟨h, e⟩ | ⟨h, h0, e⟩ | ⟨j, hj, ez, e⟩
  · rw [e] at hp
    exact br_f h hp
  · rw [e] at hp
    exact br_t h0 (br_f (tl_nle (m := 7) h (by decide) (by decide)) hp)
  · rw [e] at hp
    subst ez
    exact br_t (nI_pos' (by omega)) (br_t (nI_le (b := 7) (by omega) (by decide)) hp)
theorem tl_atY {post : Int32 → Prop} {P O K V OV SV F : Nat → Int32} {f : Nat} {zx zy : Int32} (hf : f < 4) (hp : post (tl_at P f zx zy)) : wpY_at post (P, O, K, V, OV, SV, F) (nI f) zx zy := by
  have h1 := tl_cl8 zx
  have h2 := tl_cl8 zy
  unfold wpY_at
  dsimp only
  refine tl_nY ?_
  refine tl_nY ?_
  exact (tl_rd (N := 256) (Q := P) (A := post) (64 * f + (8 * tl_cl zy + tl_cl zx)) (tl_pY f (tl_cl zy) (tl_cl zx)) (by omega) (by decide) hp)
theorem tl_szY {post : Int32 → Prop} {P O K V OV SV F : Nat → Int32} {z : Int32} (hp : post (tl_sz z)) : wpY_size post (P, O, K, V, OV, SV, F) z := by
  by_cases h : 0 ≤ z
  · rw [show tl_sz z = z from if_pos h] at hp
    exact br_t h hp
  · rw [show tl_sz z = -z from if_neg h] at hp
    exact br_f h hp
theorem tl_pfY {post : Int32 → Prop} {P O K V OV SV F : Nat → Int32} {l : Nat} (hl : l < 3) (hp : post (nI (tl_pf l))) : wpY_predicted post (P, O, K, V, OV, SV, F) (nI l) := by
  by_cases h : l = 2
  · subst h
    exact br_t rfl hp
  · rw [show tl_pf l = 1 from if_neg h] at hp
    exact br_f (fun e => h ((nI_eq (b := 2) (by omega) (by decide)).mp e)) hp
theorem tl_sfY {post : Int32 → Prop} {P O K V OV SV F : Nat → Int32} {l : Nat} (hl : l < 3) (hp : post (nI (tl_sf l))) : wpY_source post (P, O, K, V, OV, SV, F) (nI l) := by
  by_cases h : l = 0
  · subst h
    exact br_t rfl hp
  · rw [show tl_sf l = 2 from if_neg h] at hp
    exact br_f (fun e => h ((nI_eq (b := 0) (by omega) (by decide)).mp e)) hp
end
section
theorem tl_rel {P V O OV C K SV F : Nat → Int32} (k : Nat) (hP : tl_pix P 256) (hO : tl_pix O 256) (hK : tl_pix K 512) (hE : tl_enc C K SV) : i_Rel k (P, V, O, OV, C, SV, F) (P, O, K, V, OV, SV, F) :=
  ⟨P, V, O, OV, C, K, SV, F, rfl, rfl, hP, hO, hK, hE⟩
theorem tl_pixupd {P : Nat → Int32} {N k : Nat} {v : Int32} (hP : tl_pix P N) (hv : v &&& 255 = v) : tl_pix (upd P k v) N := by
  intro j hj
  by_cases h : j = k
  · subst h
    rw [pk_us]
    exact hv
  · rw [pk_un h]
    exact hP j hj
theorem i_vc_put {k : Nat} {u : SX} {v : SY} (I : i_Rel k u v) (hk : k + 5 ≤ 2560) (v1 : Int32) (v2 : Int32) (v3 : Int32) (v4 : Int32) : wpX_put (fun r u' => wpY_put (fun r' v' => r' = r ∧ i_Rel (k + 5) u' v') v v1 v2 v3 v4) u v1 v2 v3 v4 := by
  obtain ⟨P, V, O, OV, C, K, SV, F, rfl, rfl, hP, hO, hK, hE⟩ := I
  unfold wpX_put wpY_put
  dsimp only
  rcases tl_ix 4 v1 (by decide) with b1 | ⟨f, hf, rfl⟩
  · exact tl_isF_b b1 (br_t rfl (tl_bF_b b1 (br_f (by decide) ⟨rfl, tl_rel _ hP hO hK hE⟩)))
  refine tl_isF_g hf (br_f (by decide) ?_)
  rcases tl_ix 8 v2 (by decide) with b2 | ⟨x, hx, rfl⟩
  · exact tl_isP_x b2 (br_t rfl (tl_bF_g hf (br_t rfl (tl_bP_b b2 (br_f (by decide) ⟨rfl, tl_rel _ hP hO hK hE⟩)))))
  rcases tl_ix 8 v3 (by decide) with b3 | ⟨y, hy, rfl⟩
  · exact tl_isP_y hx b3 (br_t rfl (tl_bF_g hf (br_t rfl (tl_bP_g hx (br_t rfl (tl_bP_b b3 (br_f (by decide) ⟨rfl, tl_rel _ hP hO hK hE⟩)))))))
  refine tl_isP_g hx hy (br_f (by decide) ?_)
  have hi : vp_in (nI (64 * f + (8 * y + x))) 256 := vp_in_nI (by omega) (by decide)
  refine tl_plX ⟨hi, nm_e ⟨hi, nm_e ?_⟩⟩
  refine tl_bF_g hf (br_t rfl (tl_bP_g hx (br_t rfl (tl_bP_g hy (br_t rfl ?_)))))
  rw [tl_pY]
  refine ⟨hi, nm_e ⟨hi, nm_e ?_⟩⟩
  exact ⟨rfl, tl_rel _ (tl_pixupd hP (tl_and2 _)) hO hK hE⟩
theorem i_vc_pixel {k : Nat} {u : SX} {v : SY} (I : i_Rel k u v) (hk : k + 5 ≤ 2560) (v1 : Int32) (v2 : Int32) (v3 : Int32) : wpX_pixel (fun r => wpY_pixel (fun r' => r' = r ∧ i_Rel (k + 5) u v) v v1 v2 v3) u v1 v2 v3 := by
  obtain ⟨P, V, O, OV, C, K, SV, F, rfl, rfl, hP, hO, hK, hE⟩ := I
  have R := tl_rel (V := V) (OV := OV) (F := F) (k + 5) hP hO hK hE
  unfold wpX_pixel wpY_pixel wpX_pixelOrRefusal__workPixels
  dsimp only
  rcases tl_ix 4 v1 (by decide) with b1 | ⟨f, hf, rfl⟩
  · exact tl_isF_b b1 (br_t rfl (tl_bF_b b1 (br_f (by decide) ⟨rfl, R⟩)))
  refine tl_isF_g hf (br_f (by decide) ?_)
  rcases tl_ix 8 v2 (by decide) with b2 | ⟨x, hx, rfl⟩
  · exact tl_isP_x b2 (br_t rfl (tl_bF_g hf (br_t rfl (tl_bP_b b2 (br_f (by decide) ⟨rfl, R⟩)))))
  rcases tl_ix 8 v3 (by decide) with b3 | ⟨y, hy, rfl⟩
  · exact tl_isP_y hx b3 (br_t rfl (tl_bF_g hf (br_t rfl (tl_bP_g hx (br_t rfl (tl_bP_b b3 (br_f (by decide) ⟨rfl, R⟩)))))))
  refine tl_isP_g hx hy (br_f (by decide) ?_)
  have hi : vp_in (nI (64 * f + (8 * y + x))) 256 := vp_in_nI (by omega) (by decide)
  refine tl_plX ⟨hi, ?_⟩
  refine tl_bF_g hf (br_t rfl (tl_bP_g hx (br_t rfl (tl_bP_g hy (br_t rfl ?_)))))
  rw [tl_pY]
  exact ⟨hi, rfl, R⟩
theorem i_vc_out {k : Nat} {u : SX} {v : SY} (I : i_Rel k u v) (hk : k + 5 ≤ 2560) (v1 : Int32) (v2 : Int32) (v3 : Int32) : wpX_out (fun r => wpY_out (fun r' => r' = r ∧ i_Rel (k + 5) u v) v v1 v2 v3) u v1 v2 v3 := by
  obtain ⟨P, V, O, OV, C, K, SV, F, rfl, rfl, hP, hO, hK, hE⟩ := I
  have R := tl_rel (V := V) (OV := OV) (F := F) (k + 5) hP hO hK hE
  unfold wpX_out wpY_out wpX_pixelOrRefusal__outPixels
  dsimp only
  rcases tl_ix 4 v1 (by decide) with b1 | ⟨f, hf, rfl⟩
  · exact tl_isF_b b1 (br_t rfl (tl_bF_b b1 (br_f (by decide) ⟨rfl, R⟩)))
  refine tl_isF_g hf (br_f (by decide) ?_)
  rcases tl_ix 8 v2 (by decide) with b2 | ⟨x, hx, rfl⟩
  · exact tl_isP_x b2 (br_t rfl (tl_bF_g hf (br_t rfl (tl_bP_b b2 (br_f (by decide) ⟨rfl, R⟩)))))
  rcases tl_ix 8 v3 (by decide) with b3 | ⟨y, hy, rfl⟩
  · exact tl_isP_y hx b3 (br_t rfl (tl_bF_g hf (br_t rfl (tl_bP_g hx (br_t rfl (tl_bP_b b3 (br_f (by decide) ⟨rfl, R⟩)))))))
  refine tl_isP_g hx hy (br_f (by decide) ?_)
  have hi : vp_in (nI (64 * f + (8 * y + x))) 256 := vp_in_nI (by omega) (by decide)
  refine tl_plX ⟨hi, ?_⟩
  refine tl_bF_g hf (br_t rfl (tl_bP_g hx (br_t rfl (tl_bP_g hy (br_t rfl ?_)))))
  rw [tl_pY]
  exact ⟨hi, rfl, R⟩
theorem i_vc_vector {k : Nat} {u : SX} {v : SY} (I : i_Rel k u v) (hk : k + 5 ≤ 2560) (v1 : Int32) (v2 : Int32) : wpX_vector (fun r => wpY_vector (fun r' => r' = r ∧ i_Rel (k + 5) u v) v v1 v2) u v1 v2 := by
  obtain ⟨P, V, O, OV, C, K, SV, F, rfl, rfl, hP, hO, hK, hE⟩ := I
  have R := tl_rel (V := V) (OV := OV) (F := F) (k + 5) hP hO hK hE
  unfold wpX_vector wpY_vector wpX_stepOrRefusal__workSteps
  dsimp only
  rcases tl_ix 3 v1 (by decide) with b1 | ⟨l, hl, rfl⟩
  · exact tl_bR_l b1 (br_f (by decide) (tl_bL_b b1 (br_f (by decide) ⟨rfl, R⟩)))
  rcases tl_ix 4 v2 (by decide) with b2 | ⟨b, hb, rfl⟩
  · exact tl_bR_b hl b2 (br_f (by decide) (tl_bL_g hl (br_t rfl (tl_bB_b b2 (br_f (by decide) ⟨rfl, R⟩)))))
  refine tl_bR_g hl hb (br_t rfl ?_)
  have hi : vp_in (nI (4 * l + b)) 12 := vp_in_nI (by omega) (by decide)
  rw [tl_X4]
  refine ⟨hi, ?_⟩
  refine tl_bL_g hl (br_t rfl (tl_bB_g hb (br_t rfl ?_)))
  rw [tl_Y4]
  exact ⟨hi, rfl, R⟩
theorem i_vc_outVector {k : Nat} {u : SX} {v : SY} (I : i_Rel k u v) (hk : k + 5 ≤ 2560) (v1 : Int32) (v2 : Int32) : wpX_outVector (fun r => wpY_outVector (fun r' => r' = r ∧ i_Rel (k + 5) u v) v v1 v2) u v1 v2 := by
  obtain ⟨P, V, O, OV, C, K, SV, F, rfl, rfl, hP, hO, hK, hE⟩ := I
  have R := tl_rel (V := V) (OV := OV) (F := F) (k + 5) hP hO hK hE
  unfold wpX_outVector wpY_outVector wpX_stepOrRefusal__outSteps
  dsimp only
  rcases tl_ix 3 v1 (by decide) with b1 | ⟨l, hl, rfl⟩
  · exact tl_bR_l b1 (br_f (by decide) (tl_bL_b b1 (br_f (by decide) ⟨rfl, R⟩)))
  rcases tl_ix 4 v2 (by decide) with b2 | ⟨b, hb, rfl⟩
  · exact tl_bR_b hl b2 (br_f (by decide) (tl_bL_g hl (br_t rfl (tl_bB_b b2 (br_f (by decide) ⟨rfl, R⟩)))))
  refine tl_bR_g hl hb (br_t rfl ?_)
  have hi : vp_in (nI (4 * l + b)) 12 := vp_in_nI (by omega) (by decide)
  rw [tl_X4]
  refine ⟨hi, ?_⟩
  refine tl_bL_g hl (br_t rfl (tl_bB_g hb (br_t rfl ?_)))
  rw [tl_Y4]
  exact ⟨hi, rfl, R⟩
theorem i_vc_setVector {k : Nat} {u : SX} {v : SY} (I : i_Rel k u v) (hk : k + 5 ≤ 2560) (v1 : Int32) (v2 : Int32) (v3 : Int32) : wpX_setVector (fun r u' => wpY_setVector (fun r' v' => r' = r ∧ i_Rel (k + 5) u' v') v v1 v2 v3) u v1 v2 v3 := by
  obtain ⟨P, V, O, OV, C, K, SV, F, rfl, rfl, hP, hO, hK, hE⟩ := I
  unfold wpX_setVector wpY_setVector
  dsimp only
  rcases tl_ix 3 v1 (by decide) with b1 | ⟨l, hl, rfl⟩
  · exact tl_vR_l b1 (br_f (by decide) (tl_bL_b b1 (br_f (by decide) ⟨rfl, tl_rel _ hP hO hK hE⟩)))
  rcases tl_ix 4 v2 (by decide) with b2 | ⟨b, hb, rfl⟩
  · exact tl_vR_b hl b2 (br_f (by decide) (tl_bL_g hl (br_t rfl (tl_bB_b b2 (br_f (by decide) ⟨rfl, tl_rel _ hP hO hK hE⟩)))))
  rcases tl_ix 25 v3 (by decide) with b3 | ⟨s, hs, rfl⟩
  · exact tl_vR_s hl hb b3 (br_f (by decide) (tl_bL_g hl (br_t rfl (tl_bB_g hb (br_t rfl (tl_bT_b b3 (br_f (by decide) ⟨rfl, tl_rel _ hP hO hK hE⟩)))))))
  have hi : vp_in (nI (4 * l + b)) 12 := vp_in_nI (by omega) (by decide)
  refine tl_vR_g hl hb hs (br_t rfl (nm_r (tl_X4 l b) ⟨hi, nm_e ⟨hi, nm_e ?_⟩⟩))
  refine tl_bL_g hl (br_t rfl (tl_bB_g hb (br_t rfl (tl_bT_g hs (br_t rfl ?_)))))
  rw [tl_Y4]
  exact ⟨hi, nm_e ⟨hi, nm_e ⟨rfl, tl_rel _ hP hO hK hE⟩⟩⟩
theorem i_vc_erase {k : Nat} {u : SX} {v : SY} (I : i_Rel k u v) (hk : k + 5 ≤ 2560) (v1 : Int32) : wpX_erase (fun r u' => wpY_erase (fun r' v' => r' = r ∧ i_Rel (k + 5) u' v') v v1) u v1 := by
  obtain ⟨P, V, O, OV, C, K, SV, F, rfl, rfl, hP, hO, hK, hE⟩ := I
  unfold wpX_erase wpY_erase
  dsimp only
  rcases tl_ix 2 v1 (by decide) with b1 | ⟨s, hs, rfl⟩
  · exact tl_isS_b b1 (br_t rfl (tl_bS_b b1 (br_f (by decide) ⟨rfl, tl_rel _ hP hO hK hE⟩)))
  have hi : vp_in (nI s) 2 := vp_in_nI hs (by decide)
  refine tl_isS_g hs (br_f (by decide) ⟨hi, ?_⟩)
  by_cases z : F (nI s).toNatClampNeg = 0
  · exact br_t z ⟨hi, nm_e (tl_bS_g hs (br_t rfl ⟨hi, br_t z ⟨hi, nm_e ⟨rfl, tl_rel _ hP hO hK hE⟩⟩⟩))⟩
  · exact br_f z ⟨hi, nm_e (tl_bS_g hs (br_t rfl ⟨hi, br_f z ⟨hi, nm_e ⟨rfl, tl_rel _ hP hO hK hE⟩⟩⟩))⟩
theorem i_vc_filled {k : Nat} {u : SX} {v : SY} (I : i_Rel k u v) (hk : k + 5 ≤ 2560) (v1 : Int32) : wpX_filled (fun r => wpY_filled (fun r' => r' = r ∧ i_Rel (k + 5) u v) v v1) u v1 := by
  obtain ⟨P, V, O, OV, C, K, SV, F, rfl, rfl, hP, hO, hK, hE⟩ := I
  have R := tl_rel (V := V) (OV := OV) (F := F) (k + 5) hP hO hK hE
  unfold wpX_filled wpY_filled
  dsimp only
  rcases tl_ix 2 v1 (by decide) with b1 | ⟨s, hs, rfl⟩
  · exact tl_isS_b b1 (br_t rfl (tl_bS_b b1 (br_f (by decide) ⟨rfl, R⟩)))
  have hi : vp_in (nI s) 2 := vp_in_nI hs (by decide)
  refine tl_isS_g hs (br_f (by decide) ⟨hi, ?_⟩)
  by_cases z : F (nI s).toNatClampNeg = 0
  · exact br_t z (tl_bS_g hs (br_t rfl ⟨hi, br_t z ⟨rfl, R⟩⟩))
  · exact br_f z (tl_bS_g hs (br_t rfl ⟨hi, br_f z ⟨rfl, R⟩⟩))
end
section
/-! ramp, drift, roughen: each side fills one frame -/
theorem tl_le8 : nI 8 ≤ nI 8 := by decide
theorem tl_inw {f y x : Nat} (hf : f < 4) (hy : y < 8) (hx : x < 8) : vp_in (nI (64 * f + (8 * y + x))) 256 := vp_in_nI (by omega) (by decide)
/-- one store into the frame at (x, y) -/
theorem tl_put {A : (Nat → Int32) → Prop} {P g : Nat → Int32} {f y x N : Nat} {v : Int32} (hN : 64 * f + (8 * y + x) < N) (h31 : N < 2 ^ 31) (hv : v = g (8 * y + x)) (h : A (tl_fill P (64 * f) (8 * y + (x + 1)) g)) : vp_in (nI (64 * f + (8 * y + x))) N ∧ ∀ a : Nat → Int32, a = upd (tl_fill P (64 * f) (8 * y + x) g) (nI (64 * f + (8 * y + x))).toNatClampNeg v → A a :=
  tl_st (64 * f + (8 * y + x)) rfl hN h31 _ (tl_fillS hv) h
def tl_gr (a b c : Int32) : Nat → Int32 := fun i => (a * nI (i % 8) + b * nI (i / 8) + c) &&& 255
theorem tl_md {y x : Nat} (h : x < 8) : (8 * y + x) % 8 = x := by omega
theorem tl_dv {y x : Nat} (h : x < 8) : (8 * y + x) / 8 = y := by omega
theorem tl_grv (a b c : Int32) {y x : Nat} (h : x < 8) : (a * nI x + b * nI y + c) &&& 255 = tl_gr a b c (8 * y + x) := by
  unfold tl_gr
  rw [tl_md h, tl_dv h]
section
variable {P V O OV C K SV F : Nat → Int32}
theorem tl_rampX1 {post : Int32 → SX → Prop} {J : Int32 → (Nat → Int32) → (Nat → Int32) → (Nat → Int32) → (Nat → Int32) → (Nat → Int32) → (Nat → Int32) → (Nat → Int32) → Prop} {f y : Nat} {a b c : Int32} (hf : f < 4) (hy : y < 8)
    (hJ : J (nI (y + 1)) (tl_fill P (64 * f) (8 * (y + 1)) (tl_gr a b c)) V O OV C SV F) :
    ∃ n, wX_ramp_22 post J (nI f) a b c (nI y) n 0 (tl_fill P (64 * f) (8 * y) (tl_gr a b c)) V O OV C SV F := by
  refine loop_0 (fun n i Q => wX_ramp_22 post J (nI f) a b c (nI y) n (nI i) Q V O OV C SV F) (fun i Q => Q = tl_fill P (64 * f) (8 * y + i) (tl_gr a b c)) 8 _ rfl ?_ ?_
  · intro n Q hQ
    subst hQ
    exact br_t tl_le8 (nm_r (nI_1 y) hJ)
  · intro n i Q hi hQ ih
    subst hQ
    exact br_f (nI_ge (b := 8) hi (by decide)) (tl_plX (tl_put (by omega) (by decide) (tl_grv a b c hi) (nm_r (nI_1 i) (ih _ rfl))))
theorem tl_lastX {post : Int32 → Prop} {f : Nat} (hf : f < 4) (hp : post (P (64 * f + 63))) : wpX_lastPixelOf post (P, V, O, OV, C, SV, F) (nI f) := by
  have e : nI f * 64 + 64 - 1 = nI (64 * f + 63) := by
    show nI f * nI 64 + nI 64 - nI 1 = _
    rw [pk_mul, nI_add, pk_sub (by omega)]
    exact congrArg nI (by omega)
  unfold wpX_lastPixelOf
  dsimp only
  rw [e, nI_clamp (by omega)]
  exact ⟨vp_in_nI (by omega) (by decide), hp⟩
theorem tl_lastY {A : Prop} {post : Int32 → Prop} {f : Nat} (hf : f < 4) (hp : post (P (64 * f + 63))) : vp_in (64 * nI f + 63) 256 ∧ post (P (64 * nI f + 63).toNatClampNeg) := by
  have e : 64 * nI f + 63 = nI (64 * f + 63) := tl_mY 64 f 63
  rw [e, nI_clamp (by omega)]
  exact ⟨vp_in_nI (by omega) (by decide), hp⟩
theorem tl_rampX {post : Int32 → SX → Prop} {f : Nat} {a b c : Int32} (hf : f < 4)
    (hp : post (tl_fill P (64 * f) 64 (tl_gr a b c) (64 * f + 63)) (tl_fill P (64 * f) 64 (tl_gr a b c), V, O, OV, C, SV, F)) :
    ∃ n, wX_ramp_12 post (nI f) a b c n 0 P V O OV C SV F := by
  refine loop_0 (fun n i Q => wX_ramp_12 post (nI f) a b c n (nI i) Q V O OV C SV F) (fun i Q => Q = tl_fill P (64 * f) (8 * i) (tl_gr a b c)) 8 _ (tl_fill0 _ _ _).symm ?_ ?_
  · intro n Q hQ
    subst hQ
    exact br_t tl_le8 (tl_lastX hf hp)
  · intro n i Q hi hQ ih
    subst hQ
    exact br_f (nI_ge (b := 8) hi (by decide)) (tl_rampX1 hf hi (ih _ rfl))
theorem tl_rampY1 {post : Int32 → SY → Prop} {J : Int32 → (Nat → Int32) → (Nat → Int32) → (Nat → Int32) → (Nat → Int32) → (Nat → Int32) → (Nat → Int32) → (Nat → Int32) → Prop} {f y : Nat} {a b c : Int32} (hf : f < 4) (hy : y < 8)
    (hJ : J (nI (y + 1)) (tl_fill P (64 * f) (8 * (y + 1)) (tl_gr a b c)) O K V OV SV F) :
    ∃ n, wY_ramp_23 post J (nI f) a b c (nI y) n 0 (tl_fill P (64 * f) (8 * y) (tl_gr a b c)) O K V OV SV F := by
  refine loop_0 (fun n i Q => wY_ramp_23 post J (nI f) a b c (nI y) n (nI i) Q O K V OV SV F) (fun i Q => Q = tl_fill P (64 * f) (8 * y + i) (tl_gr a b c)) 8 _ rfl ?_ ?_
  · intro n Q hQ
    subst hQ
    exact br_t tl_le8 (nm_r (nI_1 y) hJ)
  · intro n i Q hi hQ ih
    subst hQ
    exact br_f (nI_ge (b := 8) hi (by decide)) (tl_st (64 * f + (8 * y + i)) (tl_pY f y i) (by omega) (by decide) _ (tl_fillS (tl_grv a b c hi)) (nm_r (nI_1 i) (ih _ rfl)))
theorem tl_rampY {post : Int32 → SY → Prop} {f : Nat} {a b c : Int32} (hf : f < 4)
    (hp : post (tl_fill P (64 * f) 64 (tl_gr a b c) (64 * f + 63)) (tl_fill P (64 * f) 64 (tl_gr a b c), O, K, V, OV, SV, F)) :
    ∃ n, wY_ramp_13 post (nI f) a b c n 0 P O K V OV SV F := by
  refine loop_0 (fun n i Q => wY_ramp_13 post (nI f) a b c n (nI i) Q O K V OV SV F) (fun i Q => Q = tl_fill P (64 * f) (8 * i) (tl_gr a b c)) 8 _ (tl_fill0 _ _ _).symm ?_ ?_
  · intro n Q hQ
    subst hQ
    exact br_t tl_le8 (tl_lastY (A := True) (post := fun r => post r (tl_fill P (64 * f) 64 (tl_gr a b c), O, K, V, OV, SV, F)) hf hp)
  · intro n i Q hi hQ ih
    subst hQ
    exact br_f (nI_ge (b := 8) hi (by decide)) (tl_rampY1 hf hi (ih _ rfl))
end
theorem i_vc_ramp {k : Nat} {u : SX} {v : SY} (I : i_Rel k u v) (hk : k + 5 ≤ 2560) (v1 : Int32) (v2 : Int32) (v3 : Int32) (v4 : Int32) : wpX_ramp (fun r u' => wpY_ramp (fun r' v' => r' = r ∧ i_Rel (k + 5) u' v') v v1 v2 v3 v4) u v1 v2 v3 v4 := by
  obtain ⟨P, V, O, OV, C, K, SV, F, rfl, rfl, hP, hO, hK, hE⟩ := I
  unfold wpX_ramp wpY_ramp
  dsimp only
  rcases tl_ix 4 v1 (by decide) with b1 | ⟨f, hf, rfl⟩
  · exact tl_isF_b b1 (br_t rfl (tl_bF_b b1 (br_f (by decide) ⟨rfl, tl_rel _ hP hO hK hE⟩)))
  refine tl_isF_g hf (br_f (by decide) ?_)
  refine tl_rampX hf ?_
  refine tl_bF_g hf (br_t rfl ?_)
  refine tl_rampY hf ?_
  exact ⟨rfl, tl_rel _ (tl_pixfill hP (fun i _ => tl_and2 _)) hO hK hE⟩
/-! drift -/
def tl_gd (P : Nat → Int32) (f : Nat) (dx dy : Int32) : Nat → Int32 := fun i => tl_at P f (nI (i % 8) - dx) (nI (i / 8) - dy)
theorem tl_gdv (P g : Nat → Int32) (f n : Nat) (dx dy : Int32) {y x : Nat} (h : x < 8) : tl_at (tl_fill P (64 * (f + 1)) n g) f (nI x - dx) (nI y - dy) = tl_gd P f dx dy (8 * y + x) := by
  unfold tl_gd
  rw [tl_md h, tl_dv h]
  exact tl_at_c (fun i hi => tl_fout (by omega)) _ _
section
variable {P V O OV C K SV F : Nat → Int32}
theorem tl_driftX1 {post : Int32 → SX → Prop} {J : Int32 → (Nat → Int32) → (Nat → Int32) → (Nat → Int32) → (Nat → Int32) → (Nat → Int32) → (Nat → Int32) → (Nat → Int32) → Prop} {f y : Nat} {dx dy : Int32} (hf : f < 3) (hy : y < 8)
    (hJ : J (nI (y + 1)) (tl_fill P (64 * (f + 1)) (8 * (y + 1)) (tl_gd P f dx dy)) V O OV C SV F) :
    ∃ n, wX_drift_42 post J (nI (f + 1)) dx dy (nI y) n 0 (tl_fill P (64 * (f + 1)) (8 * y) (tl_gd P f dx dy)) V O OV C SV F := by
  refine loop_0 (fun n i Q => wX_drift_42 post J (nI (f + 1)) dx dy (nI y) n (nI i) Q V O OV C SV F) (fun i Q => Q = tl_fill P (64 * (f + 1)) (8 * y + i) (tl_gd P f dx dy)) 8 _ rfl ?_ ?_
  · intro n Q hQ
    subst hQ
    exact br_t tl_le8 (nm_r (nI_1 y) hJ)
  · intro n i Q hi hQ ih
    subst hQ
    refine br_f (nI_ge (b := 8) hi (by decide)) (tl_plX ?_)
    rw [nI_pred]
    refine tl_neW (by omega) ?_
    exact tl_put (by omega) (by decide) (tl_gdv P _ f _ dx dy hi) (nm_r (nI_1 i) (ih _ rfl))
theorem tl_driftX {post : Int32 → SX → Prop} {f : Nat} {dx dy : Int32} (hf : f < 3)
    (hp : post (tl_fill P (64 * (f + 1)) 64 (tl_gd P f dx dy) (64 * (f + 1))) (tl_fill P (64 * (f + 1)) 64 (tl_gd P f dx dy), V, O, OV, C, SV, F)) :
    ∃ n, wX_drift_32 post (nI (f + 1)) dx dy n 0 P V O OV C SV F := by
  refine loop_0 (fun n i Q => wX_drift_32 post (nI (f + 1)) dx dy n (nI i) Q V O OV C SV F) (fun i Q => Q = tl_fill P (64 * (f + 1)) (8 * i) (tl_gd P f dx dy)) 8 _ (tl_fill0 _ _ _).symm ?_ ?_
  · intro n Q hQ
    subst hQ
    refine br_t tl_le8 ?_
    have e : nI (f + 1) * 64 = nI (64 * (f + 1)) := by
      show nI (f + 1) * nI 64 = _
      rw [pk_mul, Nat.mul_comm]
    rw [e, nI_clamp (by omega)]
    exact ⟨vp_in_nI (by omega) (by decide), hp⟩
  · intro n i Q hi hQ ih
    subst hQ
    exact br_f (nI_ge (b := 8) hi (by decide)) (tl_driftX1 hf hi (ih _ rfl))
theorem tl_driftY1 {post : Int32 → SY → Prop} {J : Int32 → (Nat → Int32) → (Nat → Int32) → (Nat → Int32) → (Nat → Int32) → (Nat → Int32) → (Nat → Int32) → (Nat → Int32) → Prop} {f y : Nat} {dx dy : Int32} (hf : f < 3) (hy : y < 8)
    (hJ : J (nI (y + 1)) (tl_fill P (64 * (f + 1)) (8 * (y + 1)) (tl_gd P f dx dy)) O K V OV SV F) :
    ∃ n, wY_drift_52 post J (nI (f + 1)) dx dy (nI y) n 0 (tl_fill P (64 * (f + 1)) (8 * y) (tl_gd P f dx dy)) O K V OV SV F := by
  refine loop_0 (fun n i Q => wY_drift_52 post J (nI (f + 1)) dx dy (nI y) n (nI i) Q O K V OV SV F) (fun i Q => Q = tl_fill P (64 * (f + 1)) (8 * y + i) (tl_gd P f dx dy)) 8 _ rfl ?_ ?_
  · intro n Q hQ
    subst hQ
    exact br_t tl_le8 (nm_r (nI_1 y) hJ)
  · intro n i Q hi hQ ih
    subst hQ
    refine br_f (nI_ge (b := 8) hi (by decide)) ?_
    rw [nI_pred]
    refine tl_atY (by omega) ?_
    exact tl_st (64 * (f + 1) + (8 * y + i)) (tl_pY (f + 1) y i) (by omega) (by decide) _ (tl_fillS (tl_gdv P _ f _ dx dy hi)) (nm_r (nI_1 i) (ih _ rfl))
theorem tl_driftY {post : Int32 → SY → Prop} {f : Nat} {dx dy : Int32} (hf : f < 3)
    (hp : post (tl_fill P (64 * (f + 1)) 64 (tl_gd P f dx dy) (64 * (f + 1))) (tl_fill P (64 * (f + 1)) 64 (tl_gd P f dx dy), O, K, V, OV, SV, F)) :
    ∃ n, wY_drift_42 post (nI (f + 1)) dx dy n 0 P O K V OV SV F := by
  refine loop_0 (fun n i Q => wY_drift_42 post (nI (f + 1)) dx dy n (nI i) Q O K V OV SV F) (fun i Q => Q = tl_fill P (64 * (f + 1)) (8 * i) (tl_gd P f dx dy)) 8 _ (tl_fill0 _ _ _).symm ?_ ?_
  · intro n Q hQ
    subst hQ
    refine br_t tl_le8 ?_
    have e : 64 * nI (f + 1) = nI (64 * (f + 1)) := pk_mul 64 (f + 1)
    rw [e, nI_clamp (by omega)]
    exact ⟨vp_in_nI (by omega) (by decide), hp⟩
  · intro n i Q hi hQ ih
    subst hQ
    exact br_f (nI_ge (b := 8) hi (by decide)) (tl_driftY1 hf hi (ih _ rfl))
end
theorem tl_isD_l {post : Int32 → Prop} {z : Int32} (h : z < -8) (hp : post 0) : wpX_isDrift post z := br_t h hp
theorem tl_isD_r {post : Int32 → Prop} {z : Int32} (h : ¬ z < -8) (h2 : 8 < z) (hp : post 0) : wpX_isDrift post z := br_f h (br_t h2 hp)
theorem tl_isD_g {post : Int32 → Prop} {z : Int32} (h : ¬ z < -8) (h2 : ¬ 8 < z) (hp : post 1) : wpX_isDrift post z := br_f h (br_f h2 hp)
theorem tl_f13 (z : Int32) : z < 1 ∨ (¬ z < 1 ∧ ¬ z < 4 ∧ ¬ z ≤ 3) ∨ ∃ f : Nat, f < 3 ∧ z = nI (f + 1) := by
  rcases pk_ix z (n := 4) (by decide) with h | h | ⟨j, hj, rfl⟩
  · left
    rw [Int32.lt_iff_toInt_lt, show (0 : Int32).toInt = 0 from by decide] at h
    rw [Int32.lt_iff_toInt_lt, show (1 : Int32).toInt = 1 from by decide]
    omega
  · right; left
    refine ⟨?_, Int32.not_lt.mpr h, tl_nle (m := 3) h (by decide) (by decide)⟩
    have h3 := tl_nle (m := 1) h (by decide) (by decide)
    exact fun z1 => h3 (Int32.le_of_lt z1)
  · by_cases h0 : j = 0
    · subst h0
      exact Or.inl (by decide)
    · exact Or.inr (Or.inr ⟨j - 1, by omega, by rw [Nat.sub_add_cancel (by omega)]⟩)
theorem tl_pixat {P : Nat → Int32} {f : Nat} (hf : f < 4) (hP : tl_pix P 256) (zx zy : Int32) : tl_at P f zx zy &&& 255 = tl_at P f zx zy := by
  have h1 := tl_cl8 zx
  have h2 := tl_cl8 zy
  exact hP _ (by omega)
theorem i_vc_drift {k : Nat} {u : SX} {v : SY} (I : i_Rel k u v) (hk : k + 5 ≤ 2560) (v1 : Int32) (v2 : Int32) (v3 : Int32) : wpX_drift (fun r u' => wpY_drift (fun r' v' => r' = r ∧ i_Rel (k + 5) u' v') v v1 v2 v3) u v1 v2 v3 := by
  obtain ⟨P, V, O, OV, C, K, SV, F, rfl, rfl, hP, hO, hK, hE⟩ := I
  unfold wpX_drift wpY_drift
  dsimp only
  rcases tl_f13 v1 with b1 | ⟨b1, b2, b3⟩ | ⟨f, hf, rfl⟩
  · exact br_t b1 (br_t b1 ⟨rfl, tl_rel _ hP hO hK hE⟩)
  · exact br_f b1 (br_f b2 (br_f b1 (br_f b3 ⟨rfl, tl_rel _ hP hO hK hE⟩)))
  have h1 : ¬ nI (f + 1) < 1 := nI_nlt (b := 1) (by omega) (by omega)
  have h4 : nI (f + 1) < 4 := nI_lt (b := 4) (by omega) (by decide)
  have h3 : nI (f + 1) ≤ 3 := nI_le (b := 3) (by omega) (by decide)
  refine br_f h1 (br_t h4 ?_)
  by_cases x1 : v2 < -8
  · exact tl_isD_l x1 (br_t rfl (br_f h1 (br_t h3 (br_t x1 ⟨rfl, tl_rel _ hP hO hK hE⟩))))
  by_cases x2 : 8 < v2
  · exact tl_isD_r x1 x2 (br_t rfl (br_f h1 (br_t h3 (br_f x1 (br_t x2 ⟨rfl, tl_rel _ hP hO hK hE⟩)))))
  refine tl_isD_g x1 x2 (br_f (by decide) ?_)
  by_cases y1 : v3 < -8
  · exact tl_isD_l y1 (br_t rfl (br_f h1 (br_t h3 (br_f x1 (br_f x2 (br_t y1 ⟨rfl, tl_rel _ hP hO hK hE⟩))))))
  by_cases y2 : 8 < v3
  · exact tl_isD_r y1 y2 (br_t rfl (br_f h1 (br_t h3 (br_f x1 (br_f x2 (br_f y1 (br_f (Int32.not_le.mpr y2) ⟨rfl, tl_rel _ hP hO hK hE⟩)))))))
  refine tl_isD_g y1 y2 (br_f (by decide) ?_)
  refine tl_driftX hf ?_
  refine br_f h1 (br_t h3 (br_f x1 (br_f x2 (br_f y1 (br_t (Int32.not_lt.mp y2) ?_)))))
  refine tl_driftY hf ?_
  exact ⟨rfl, tl_rel _ (tl_pixfill hP (fun i _ => tl_pixat (by omega) hP _ _)) hO hK hE⟩
/-! roughen -/
def tl_go (P : Nat → Int32) (f : Nat) (seed : Int32) : Nat → Int32 := fun i => (P (64 * f + i) + (seed * nI (i + 1) &&& 15)) &&& 255
section
variable {P V O OV C K SV F : Nat → Int32}
theorem tl_roughX {post : Int32 → SX → Prop} {f : Nat} {s : Int32} (hf : f < 4)
    (hp : post (tl_fill P (64 * f) 64 (tl_go P f s) (64 * f + 63)) (tl_fill P (64 * f) 64 (tl_go P f s), V, O, OV, C, SV, F)) :
    ∃ n, wX_roughen_11 post (nI f) s n 0 P V O OV C SV F := by
  refine loop_0 (fun n i Q => wX_roughen_11 post (nI f) s n (nI i) Q V O OV C SV F) (fun i Q => Q = tl_fill P (64 * f) i (tl_go P f s)) 64 _ (tl_fill0 _ _ _).symm ?_ ?_
  · intro n Q hQ
    subst hQ
    exact br_t (show nI 64 ≤ nI 64 by decide) (tl_lastX hf hp)
  · intro n i Q hi hQ ih
    subst hQ
    refine br_f (nI_ge (b := 64) hi (by decide)) (nm_r (tl_X64 f i) (nm_r (e' := s * nI (i + 1) &&& 15) (by rw [nI_1]) ⟨vp_in_nI (by omega) (by decide), ?_⟩))
    refine tl_st (64 * f + i) rfl (by omega) (by decide) _ (tl_fillS ?_) (nm_r (nI_1 i) (ih _ rfl))
    rw [nI_clamp (by omega), tl_fout (by omega)]
    rfl
theorem tl_roughY1 {post : Int32 → SY → Prop} {J : Int32 → (Nat → Int32) → (Nat → Int32) → (Nat → Int32) → (Nat → Int32) → (Nat → Int32) → (Nat → Int32) → (Nat → Int32) → Prop} {f y : Nat} {s : Int32} (hf : f < 4) (hy : y < 8)
    (hJ : J (nI (y + 1)) (tl_fill P (64 * f) (8 * (y + 1)) (tl_go P f s)) O K V OV SV F) :
    ∃ n, wY_roughen_21 post J (nI f) s (nI y) n 0 (tl_fill P (64 * f) (8 * y) (tl_go P f s)) O K V OV SV F := by
  refine loop_0 (fun n i Q => wY_roughen_21 post J (nI f) s (nI y) n (nI i) Q O K V OV SV F) (fun i Q => Q = tl_fill P (64 * f) (8 * y + i) (tl_go P f s)) 8 _ rfl ?_ ?_
  · intro n Q hQ
    subst hQ
    exact br_t tl_le8 (nm_r (nI_1 y) hJ)
  · intro n i Q hi hQ ih
    subst hQ
    refine br_f (nI_ge (b := 8) hi (by decide)) (nm_r (tl_pY f y i) ⟨tl_inw hf hy hi, ?_⟩)
    refine tl_st (64 * f + (8 * y + i)) rfl (by omega) (by decide) _ (tl_fillS ?_) (nm_r (nI_1 i) (ih _ rfl))
    have e : 8 * nI y + nI i + 1 = nI (8 * y + i + 1) := by
      show nI 8 * nI y + nI i + 1 = _
      rw [pk_mul, nI_add, nI_1]
    rw [nI_clamp (by omega), tl_fout (by omega), e]
    rfl
theorem tl_roughY {post : Int32 → SY → Prop} {f : Nat} {s : Int32} (hf : f < 4)
    (hp : post (tl_fill P (64 * f) 64 (tl_go P f s) (64 * f + 63)) (tl_fill P (64 * f) 64 (tl_go P f s), O, K, V, OV, SV, F)) :
    ∃ n, wY_roughen_12 post (nI f) s n 0 P O K V OV SV F := by
  refine loop_0 (fun n i Q => wY_roughen_12 post (nI f) s n (nI i) Q O K V OV SV F) (fun i Q => Q = tl_fill P (64 * f) (8 * i) (tl_go P f s)) 8 _ (tl_fill0 _ _ _).symm ?_ ?_
  · intro n Q hQ
    subst hQ
    exact br_t tl_le8 (tl_lastY (A := True) (post := fun r => post r (tl_fill P (64 * f) 64 (tl_go P f s), O, K, V, OV, SV, F)) hf hp)
  · intro n i Q hi hQ ih
    subst hQ
    exact br_f (nI_ge (b := 8) hi (by decide)) (tl_roughY1 hf hi (ih _ rfl))
end
theorem i_vc_roughen {k : Nat} {u : SX} {v : SY} (I : i_Rel k u v) (hk : k + 5 ≤ 2560) (v1 : Int32) (v2 : Int32) : wpX_roughen (fun r u' => wpY_roughen (fun r' v' => r' = r ∧ i_Rel (k + 5) u' v') v v1 v2) u v1 v2 := by
  obtain ⟨P, V, O, OV, C, K, SV, F, rfl, rfl, hP, hO, hK, hE⟩ := I
  unfold wpX_roughen wpY_roughen
  dsimp only
  rcases tl_ix 4 v1 (by decide) with b1 | ⟨f, hf, rfl⟩
  · exact tl_isF_b b1 (br_t rfl (tl_bF_b b1 (br_f (by decide) ⟨rfl, tl_rel _ hP hO hK hE⟩)))
  refine tl_isF_g hf (br_f (by decide) ?_)
  refine tl_roughX hf ?_
  refine tl_bF_g hf (br_t rfl ?_)
  refine tl_roughY hf ?_
  exact ⟨rfl, tl_rel _ (tl_pixfill hP (fun i _ => tl_and2 _)) hO hK hE⟩
end
section
/-! the start, difference, adopt -/
theorem tl_fillZ {P : Nat → Int32} {n : Nat} {g : Nat → Int32} {v : Int32} (hv : v = g n) : upd (tl_fill P 0 n g) n v = tl_fill P 0 (n + 1) g := by
  have h := tl_fillS (P := P) (lo := 0) (n := n) hv
  rw [Nat.zero_add] at h
  exact h
theorem tl_le (n : Nat) : nI n ≤ nI n := Int32.le_refl _
def tl_sum (h : Nat → Int32) : Nat → Int32
  | 0 => 0
  | n + 1 => tl_sum h n + h n
theorem tl_sum_c {h h' : Nat → Int32} : ∀ n, (∀ i, i < n → h i = h' i) → tl_sum h n = tl_sum h' n := by
  intro n
  induction n with
  | zero => intro _; rfl
  | succ n ih =>
    intro e
    show tl_sum h n + h n = tl_sum h' n + h' n
    rw [ih (fun i hi => e i (by omega)), e n (by omega)]
theorem tl_enc0 : tl_enc (fun _ => 0) (fun _ => 0) (fun _ => 0) := by
  intro s f y x _ _ _ _
  have e : tl_pr (fun _ => 0) (fun _ => 0) f x y = 0 := by
    unfold tl_pr
    by_cases h1 : f = 1
    · rw [if_pos h1]
      show ((0 : Int32) + 0) / 2 = 0
      decide
    · rw [if_neg h1]
      by_cases h3 : f = 3
      · rw [if_pos h3]
        rfl
      · rw [if_neg h3]
  show (0 : Int32) = (0 - tl_pr (fun _ => 0) (fun _ => 0) f x y) &&& 255
  rw [e]
  decide
theorem tl_pix0 (n : Nat) : tl_pix (fun _ => 0) n := fun _ _ => by
  show (0 : Int32) &&& 255 = 0
  decide
theorem tl_initX {post : SX → Prop} {P V O OV C SV F : Nat → Int32} (hp : post (P, tl_fill V 0 12 (fun _ => 12), O, tl_fill OV 0 12 (fun _ => 12), C, SV, F)) :
    ∃ n, wX_init_64 post n 0 P V O OV C SV F := by
  refine loop_0 (fun n i (s : (Nat → Int32) × (Nat → Int32)) => wX_init_64 post n (nI i) P s.1 O s.2 C SV F) (fun i s => s = (tl_fill V 0 i (fun _ => 12), tl_fill OV 0 i (fun _ => 12))) 12 (V, OV) ?_ ?_ ?_
  · rw [tl_fill0, tl_fill0]
  · intro n s hs
    subst hs
    exact br_t (tl_le 12) hp
  · intro n i s hi hs ih
    subst hs
    exact br_f (nI_ge (b := 12) hi (by decide)) (tl_st i rfl (by omega) (by decide) (tl_fill V 0 (i + 1) (fun _ => 12)) (tl_fillZ (P := V) (g := fun _ => 12) rfl) (tl_st i rfl (by omega) (by decide) (tl_fill OV 0 (i + 1) (fun _ => 12)) (tl_fillZ (P := OV) (g := fun _ => 12) rfl) (nm_r (nI_1 i) (ih (_, _) rfl))))
theorem tl_initY {post : SY → Prop} {P V O OV K SV F : Nat → Int32} (hp : post (P, O, K, tl_fill V 0 12 (fun _ => 12), tl_fill OV 0 12 (fun _ => 12), SV, F)) :
    ∃ n, wY_init_64 post n 0 P O K V OV SV F := by
  refine loop_0 (fun n i (s : (Nat → Int32) × (Nat → Int32)) => wY_init_64 post n (nI i) P O K s.1 s.2 SV F) (fun i s => s = (tl_fill V 0 i (fun _ => 12), tl_fill OV 0 i (fun _ => 12))) 12 (V, OV) ?_ ?_ ?_
  · rw [tl_fill0, tl_fill0]
  · intro n s hs
    subst hs
    exact br_t (tl_le 12) hp
  · intro n i s hi hs ih
    subst hs
    exact br_f (nI_ge (b := 12) hi (by decide)) (tl_st i rfl (by omega) (by decide) (tl_fill V 0 (i + 1) (fun _ => 12)) (tl_fillZ (P := V) (g := fun _ => 12) rfl) (tl_st i rfl (by omega) (by decide) (tl_fill OV 0 (i + 1) (fun _ => 12)) (tl_fillZ (P := OV) (g := fun _ => 12) rfl) (nm_r (nI_1 i) (ih (_, _) rfl))))
theorem i_vc0 : wpX_init (fun u => wpY_init (fun v => i_Rel 0 u v)) := by
  unfold wpX_init wpY_init
  exact tl_initX (tl_initY (tl_rel 0 (tl_pix0 _) (tl_pix0 _) (tl_pix0 _) tl_enc0))
/-! adopt -/
section
variable {P V O OV C K SV F : Nat → Int32}
theorem tl_adX2 {post : SX → Prop} (hp : post (P, tl_fill V 0 12 OV, O, OV, C, SV, F)) : ∃ n, wX_adopt_29 post n 0 P V O OV C SV F := by
  refine loop_0 (fun n i Q => wX_adopt_29 post n (nI i) P Q O OV C SV F) (fun i Q => Q = tl_fill V 0 i OV) 12 _ (tl_fill0 _ _ _).symm ?_ ?_
  · intro n Q hQ
    subst hQ
    exact br_t (tl_le 12) hp
  · intro n i Q hi hQ ih
    subst hQ
    exact br_f (nI_ge (b := 12) hi (by decide)) ⟨vp_in_nI hi (by decide), tl_st i rfl hi (by decide) _ (tl_fillZ (by rw [nI_clamp (by omega)])) (nm_r (nI_1 i) (ih _ rfl))⟩
theorem tl_adX {post : SX → Prop} (hp : post (tl_fill P 0 256 O, tl_fill V 0 12 OV, O, OV, C, SV, F)) : ∃ n, wX_adopt_2 post n 0 P V O OV C SV F := by
  refine loop_0 (fun n i Q => wX_adopt_2 post n (nI i) Q V O OV C SV F) (fun i Q => Q = tl_fill P 0 i O) 256 _ (tl_fill0 _ _ _).symm ?_ ?_
  · intro n Q hQ
    subst hQ
    exact br_t (tl_le 256) (tl_adX2 hp)
  · intro n i Q hi hQ ih
    subst hQ
    exact br_f (nI_ge (b := 256) hi (by decide)) ⟨vp_in_nI hi (by decide), tl_st i rfl hi (by decide) _ (tl_fillZ (by rw [nI_clamp (by omega)])) (nm_r (nI_1 i) (ih _ rfl))⟩
theorem tl_adY2 {post : SY → Prop} (hp : post (P, O, K, tl_fill V 0 12 OV, OV, SV, F)) : ∃ n, wY_adopt_29 post n 0 P O K V OV SV F := by
  refine loop_0 (fun n i Q => wY_adopt_29 post n (nI i) P O K Q OV SV F) (fun i Q => Q = tl_fill V 0 i OV) 12 _ (tl_fill0 _ _ _).symm ?_ ?_
  · intro n Q hQ
    subst hQ
    exact br_t (tl_le 12) hp
  · intro n i Q hi hQ ih
    subst hQ
    exact br_f (nI_ge (b := 12) hi (by decide)) ⟨vp_in_nI hi (by decide), tl_st i rfl hi (by decide) _ (tl_fillZ (by rw [nI_clamp (by omega)])) (nm_r (nI_1 i) (ih _ rfl))⟩
theorem tl_adY {post : SY → Prop} (hp : post (tl_fill P 0 256 O, O, K, tl_fill V 0 12 OV, OV, SV, F)) : ∃ n, wY_adopt_2 post n 0 P O K V OV SV F := by
  refine loop_0 (fun n i Q => wY_adopt_2 post n (nI i) Q O K V OV SV F) (fun i Q => Q = tl_fill P 0 i O) 256 _ (tl_fill0 _ _ _).symm ?_ ?_
  · intro n Q hQ
    subst hQ
    exact br_t (tl_le 256) (tl_adY2 hp)
  · intro n i Q hi hQ ih
    subst hQ
    exact br_f (nI_ge (b := 256) hi (by decide)) ⟨vp_in_nI hi (by decide), tl_st i rfl hi (by decide) _ (tl_fillZ (by rw [nI_clamp (by omega)])) (nm_r (nI_1 i) (ih _ rfl))⟩
end
theorem i_vc_adopt {k : Nat} {u : SX} {v : SY} (I : i_Rel k u v) (hk : k + 5 ≤ 2560) : wpX_adopt (fun u' => wpY_adopt (fun v' => i_Rel (k + 5) u' v') v) u := by
  obtain ⟨P, V, O, OV, C, K, SV, F, rfl, rfl, hP, hO, hK, hE⟩ := I
  unfold wpX_adopt wpY_adopt
  dsimp only
  exact tl_adX (tl_adY (tl_rel _ (tl_pixfill hP (fun i hi => hO i hi)) hO hK hE))
/-! difference -/
def tl_gdi (P O : Nat → Int32) (f : Nat) : Nat → Int32 := fun i => tl_sz (O (64 * f + i) - P (64 * f + i))
section
variable {P V O OV C K SV F : Nat → Int32}
theorem tl_diX {post : Int32 → Prop} {f : Nat} (hf : f < 4) (hp : post (tl_sum (tl_gdi P O f) 64)) : ∃ n, wX_difference_13 post (nI f) P V O OV C SV F n 0 0 := by
  refine loop_0 (fun n i s => wX_difference_13 post (nI f) P V O OV C SV F n s (nI i)) (fun i s => s = tl_sum (tl_gdi P O f) i) 64 _ rfl ?_ ?_
  · intro n s hs
    subst hs
    exact br_t (tl_le 64) hp
  · intro n i s hi hs ih
    subst hs
    refine br_f (nI_ge (b := 64) hi (by decide)) (nm_r (tl_X64 f i) ?_)
    have hn : vp_in (nI (64 * f + i)) 256 := vp_in_nI (by omega) (by decide)
    refine ⟨hn, hn, tl_szX ?_⟩
    rw [nI_clamp (by omega)]
    exact nm_e (nm_r (nI_1 i) (ih _ rfl))
theorem tl_diY {post : Int32 → Prop} {f : Nat} (hf : f < 4) (hp : post (tl_sum (tl_gdi P O f) 64)) : ∃ n, wY_difference_14 post (nI f) P O K V OV SV F n 0 0 := by
  refine loop_0 (fun n i s => wY_difference_14 post (nI f) P O K V OV SV F n s (nI i)) (fun i s => s = tl_sum (tl_gdi P O f) i) 64 _ rfl ?_ ?_
  · intro n s hs
    subst hs
    exact br_t (tl_le 64) hp
  · intro n i s hi hs ih
    subst hs
    refine br_f (nI_ge (b := 64) hi (by decide)) ?_
    have hn : vp_in (nI (64 * f + i)) 256 := vp_in_nI (by omega) (by decide)
    rw [tl_Y64, nI_clamp (by omega)]
    refine ⟨hn, hn, tl_szY ?_⟩
    exact nm_e (nm_r (nI_1 i) (ih _ rfl))
end
theorem i_vc_difference {k : Nat} {u : SX} {v : SY} (I : i_Rel k u v) (hk : k + 5 ≤ 2560) (v1 : Int32) : wpX_difference (fun r => wpY_difference (fun r' => r' = r ∧ i_Rel (k + 5) u v) v v1) u v1 := by
  obtain ⟨P, V, O, OV, C, K, SV, F, rfl, rfl, hP, hO, hK, hE⟩ := I
  have R := tl_rel (V := V) (OV := OV) (F := F) (k + 5) hP hO hK hE
  unfold wpX_difference wpY_difference
  dsimp only
  rcases tl_ix 4 v1 (by decide) with b1 | ⟨f, hf, rfl⟩
  · exact tl_isF_b b1 (br_t rfl (tl_bF_b b1 (br_f (by decide) ⟨rfl, R⟩)))
  refine tl_isF_g hf (br_f (by decide) ?_)
  refine tl_diX hf ?_
  refine tl_bF_g hf (br_t rfl ?_)
  exact tl_diY hf ⟨rfl, R⟩
end
section
/-! the linked pixel and the guess, over the working and over the shown pixels -/
theorem tl_blk {x y : Nat} (hx : x < 8) (hy : y < 8) : 2 * (nI y / 4) + nI x / 4 = nI (2 * (y / 4) + x / 4) := by
  show nI 2 * (nI y / nI 4) + nI x / nI 4 = _
  rw [pk_div (by omega) (by decide) (by decide), pk_div (by omega) (by decide) (by decide), pk_mul, nI_add]
section
variable {P V O OV C K SV F : Nat → Int32}
theorem tl_lkW {post : Int32 → Prop} {l x y : Nat} (hl : l < 3) (hx : x < 8) (hy : y < 8) (hp : post (tl_lk P V l x y)) : wpX_linkedPixel__workPixels_workSteps post (P, V, O, OV, C, SV, F) (nI l) (nI x) (nI y) := by
  refine ⟨by decide, by decide, nm_r (tl_blk hx hy) ?_⟩
  rw [tl_X4]
  refine ⟨vp_in_nI (by omega) (by decide), ?_⟩
  rw [nI_clamp (by omega)]
  refine nm_e (tl_sfX hl ⟨by decide, by decide, ?_⟩)
  exact tl_neW (tl_sf4 l) hp
theorem tl_lkO {post : Int32 → Prop} {l x y : Nat} (hl : l < 3) (hx : x < 8) (hy : y < 8) (hp : post (tl_lk O OV l x y)) : wpX_linkedPixel__outPixels_outSteps post (P, V, O, OV, C, SV, F) (nI l) (nI x) (nI y) := by
  refine ⟨by decide, by decide, nm_r (tl_blk hx hy) ?_⟩
  rw [tl_X4]
  refine ⟨vp_in_nI (by omega) (by decide), ?_⟩
  rw [nI_clamp (by omega)]
  refine nm_e (tl_sfX hl ⟨by decide, by decide, ?_⟩)
  exact tl_neO (tl_sf4 l) hp
theorem tl_prW {post : Int32 → Prop} {f x y : Nat} (hf : f < 4) (hx : x < 8) (hy : y < 8) (hp : post (tl_pr P V f x y)) : wpX_prediction__workPixels_workSteps post (P, V, O, OV, C, SV, F) (nI f) (nI x) (nI y) := by
  unfold tl_pr at hp
  by_cases h1 : f = 1
  · rw [if_pos h1] at hp
    refine br_t (congrArg nI h1) ?_
    refine tl_lkW (l := 0) (by omega) hx hy ?_
    refine tl_lkW (l := 1) (by omega) hx hy ?_
    exact ⟨by decide, hp⟩
  · rw [if_neg h1] at hp
    refine br_f (fun e => h1 ((nI_eq (b := 1) (by omega) (by decide)).mp e)) ?_
    by_cases h3 : f = 3
    · rw [if_pos h3] at hp
      refine br_t (congrArg nI h3) ?_
      exact tl_lkW (l := 2) (by omega) hx hy hp
    · rw [if_neg h3] at hp
      exact br_f (fun e => h3 ((nI_eq (b := 3) (by omega) (by decide)).mp e)) hp
theorem tl_prO {post : Int32 → Prop} {f x y : Nat} (hf : f < 4) (hx : x < 8) (hy : y < 8) (hp : post (tl_pr O OV f x y)) : wpX_prediction__outPixels_outSteps post (P, V, O, OV, C, SV, F) (nI f) (nI x) (nI y) := by
  unfold tl_pr at hp
  by_cases h1 : f = 1
  · rw [if_pos h1] at hp
    refine br_t (congrArg nI h1) ?_
    refine tl_lkO (l := 0) (by omega) hx hy ?_
    refine tl_lkO (l := 1) (by omega) hx hy ?_
    exact ⟨by decide, hp⟩
  · rw [if_neg h1] at hp
    refine br_f (fun e => h1 ((nI_eq (b := 1) (by omega) (by decide)).mp e)) ?_
    by_cases h3 : f = 3
    · rw [if_pos h3] at hp
      refine br_t (congrArg nI h3) ?_
      exact tl_lkO (l := 2) (by omega) hx hy hp
    · rw [if_neg h3] at hp
      exact br_f (fun e => h3 ((nI_eq (b := 3) (by omega) (by decide)).mp e)) hp
end
/-! one slot's code -/
def tl_enc1 (c k sv : Nat → Int32) : Prop := ∀ f y x, f < 4 → y < 8 → x < 8 → c (64 * f + (8 * y + x)) = (k (64 * f + (8 * y + x)) - tl_pr k sv f x y) &&& 255
theorem tl_enc_i {C K SV : Nat → Int32} (h : ∀ s, s < 2 → tl_enc1 (fun i => C (256 * s + i)) (fun i => K (256 * s + i)) (fun i => SV (12 * s + i))) : tl_enc C K SV := fun s f y x hs hf hy hx => h s hs f y x hf hy hx
theorem tl_enc_e {C K SV : Nat → Int32} (h : tl_enc C K SV) {s : Nat} (hs : s < 2) : tl_enc1 (fun i => C (256 * s + i)) (fun i => K (256 * s + i)) (fun i => SV (12 * s + i)) := fun f y x hf hy hx => h s f y x hs hf hy hx
theorem tl_enc_c {c k sv c' k' sv' : Nat → Int32} (h : tl_enc1 c k sv) (hc : ∀ i, i < 256 → c' i = c i) (hk : ∀ i, i < 256 → k' i = k i) (hv : ∀ i, i < 12 → sv' i = sv i) : tl_enc1 c' k' sv' := by
  intro f y x hf hy hx
  rw [hc _ (by omega), hk _ (by omega), h f y x hf hy hx]
  rw [tl_pr_c (P := k') (Q := k) hx hy (fun _ i hi => hk i (by omega)) (fun _ i hi => hk _ (by omega)) hv]
def tl_ge (P V : Nat → Int32) : Nat → Int32 := fun i => (P i - tl_pr P V (i / 64) (i % 8) (i / 8 % 8)) &&& 255
theorem tl_gev (P V : Nat → Int32) {f y x : Nat} (hy : y < 8) (hx : x < 8) : (P (64 * f + (8 * y + x)) - tl_pr P V f x y) &&& 255 = tl_ge P V (64 * f + (8 * y + x)) := by
  unfold tl_ge
  rw [show (64 * f + (8 * y + x)) / 64 = f from by omega, show (64 * f + (8 * y + x)) % 8 = x from by omega, show (64 * f + (8 * y + x)) / 8 % 8 = y from by omega]
theorem tl_enc_g (P V : Nat → Int32) : tl_enc1 (tl_ge P V) P V := fun f y x _ hy hx => (tl_gev P V hy hx).symm
end
section
section
variable {P V O OV C K SV F : Nat → Int32}
theorem tl_efX1 {post : SX → Prop} {J : Int32 → (Nat → Int32) → (Nat → Int32) → (Nat → Int32) → (Nat → Int32) → (Nat → Int32) → (Nat → Int32) → (Nat → Int32) → Prop} {s f y : Nat} (hs : s < 2) (hf : f < 4) (hy : y < 8)
    (hJ : J (nI (y + 1)) P V O OV (tl_fill C (256 * s) (64 * f + 8 * (y + 1)) (tl_ge P V)) SV F) :
    ∃ n, wX_encodeFrame_11 post J (nI s) (nI f) (nI y) n 0 P V O OV (tl_fill C (256 * s) (64 * f + 8 * y) (tl_ge P V)) SV F := by
  refine loop_0 (fun n i Q => wX_encodeFrame_11 post J (nI s) (nI f) (nI y) n (nI i) P V O OV Q SV F) (fun i Q => Q = tl_fill C (256 * s) (64 * f + (8 * y + i)) (tl_ge P V)) 8 _ rfl ?_ ?_
  · intro n Q hQ
    subst hQ
    exact br_t tl_le8 (nm_r (nI_1 y) hJ)
  · intro n i Q hi hQ ih
    subst hQ
    refine br_f (nI_ge (b := 8) hi (by decide)) (tl_plX ?_)
    refine tl_prW hf hi hy ⟨tl_inw hf hy hi, ?_⟩
    rw [tl_X256, nI_clamp (n := 64 * f + (8 * y + i)) (by omega)]
    exact tl_st (256 * s + (64 * f + (8 * y + i))) rfl (by omega) (by decide) _ (tl_fillS (tl_gev P V hy hi)) (nm_r (nI_1 i) (ih _ rfl))
theorem tl_efX {post : SX → Prop} {s f : Nat} (hs : s < 2) (hf : f < 4) (hp : post (P, V, O, OV, tl_fill C (256 * s) (64 * (f + 1)) (tl_ge P V), SV, F)) :
    wpX_encodeFrame post (P, V, O, OV, tl_fill C (256 * s) (64 * f) (tl_ge P V), SV, F) (nI s) (nI f) := by
  refine loop_0 (fun n i Q => wX_encodeFrame_2 post (nI s) (nI f) n (nI i) P V O OV Q SV F) (fun i Q => Q = tl_fill C (256 * s) (64 * f + 8 * i) (tl_ge P V)) 8 _ rfl ?_ ?_
  · intro n Q hQ
    subst hQ
    exact br_t tl_le8 hp
  · intro n i Q hi hQ ih
    subst hQ
    exact br_f (nI_ge (b := 8) hi (by decide)) (tl_efX1 hs hf hi (ih _ rfl))
theorem tl_eX2 {post : Int32 → SX → Prop} {s : Nat} (hs : s < 2) (hp : post 0 (P, V, O, OV, tl_fill C (256 * s) 256 (tl_ge P V), SV, upd F s (vp_nar .boolean 1))) :
    ∃ n, wX_encode_42 post (nI s) n 0 P V O OV C SV F := by
  refine loop_0 (fun n i Q => wX_encode_42 post (nI s) n (nI i) P V O OV Q SV F) (fun i Q => Q = tl_fill C (256 * s) (64 * i) (tl_ge P V)) 4 _ (tl_fill0 _ _ _).symm ?_ ?_
  · intro n Q hQ
    subst hQ
    exact br_t (tl_le 4) (tl_st s rfl hs (by decide) _ rfl hp)
  · intro n i Q hi hQ ih
    subst hQ
    refine br_f (nI_ge (b := 4) hi (by decide)) ?_
    exact tl_efX hs hi (nm_r (nI_1 i) (ih _ rfl))
theorem tl_eX {post : Int32 → SX → Prop} {s : Nat} (hs : s < 2) (hp : post 0 (P, V, O, OV, tl_fill C (256 * s) 256 (tl_ge P V), tl_fill SV (12 * s) 12 V, upd F s (vp_nar .boolean 1))) :
    ∃ n, wX_encode_11 post (nI s) n 0 P V O OV C SV F := by
  refine loop_0 (fun n i Q => wX_encode_11 post (nI s) n (nI i) P V O OV C Q F) (fun i Q => Q = tl_fill SV (12 * s) i V) 12 _ (tl_fill0 _ _ _).symm ?_ ?_
  · intro n Q hQ
    subst hQ
    exact br_t (tl_le 12) (tl_eX2 hs hp)
  · intro n i Q hi hQ ih
    subst hQ
    exact br_f (nI_ge (b := 12) hi (by decide)) ⟨vp_in_nI hi (by decide), tl_st (12 * s + i) (tl_X12 s i) (by omega) (by decide) _ (tl_fillS (by rw [nI_clamp (by omega)])) (nm_r (nI_1 i) (ih _ rfl))⟩
theorem tl_eY2 {post : Int32 → SY → Prop} {s : Nat} (hs : s < 2) (hp : post 0 (P, O, K, V, OV, tl_fill SV (12 * s) 12 V, upd F s (vp_nar .boolean 1))) :
    ∃ n, wY_encode_45 post (nI s) n 0 P O K V OV SV F := by
  refine loop_0 (fun n i Q => wY_encode_45 post (nI s) n (nI i) P O K V OV Q F) (fun i Q => Q = tl_fill SV (12 * s) i V) 12 _ (tl_fill0 _ _ _).symm ?_ ?_
  · intro n Q hQ
    subst hQ
    exact br_t (tl_le 12) (tl_st s rfl hs (by decide) _ rfl hp)
  · intro n i Q hi hQ ih
    subst hQ
    exact br_f (nI_ge (b := 12) hi (by decide)) ⟨vp_in_nI hi (by decide), tl_st (12 * s + i) (tl_Y12 s i) (by omega) (by decide) _ (tl_fillS (by rw [nI_clamp (by omega)])) (nm_r (nI_1 i) (ih _ rfl))⟩
theorem tl_eY {post : Int32 → SY → Prop} {s : Nat} (hs : s < 2) (hp : post 0 (P, O, tl_fill K (256 * s) 256 P, V, OV, tl_fill SV (12 * s) 12 V, upd F s (vp_nar .boolean 1))) :
    ∃ n, wY_encode_12 post (nI s) n 0 P O K V OV SV F := by
  refine loop_0 (fun n i Q => wY_encode_12 post (nI s) n (nI i) P O Q V OV SV F) (fun i Q => Q = tl_fill K (256 * s) i P) 256 _ (tl_fill0 _ _ _).symm ?_ ?_
  · intro n Q hQ
    subst hQ
    exact br_t (tl_le 256) (tl_eY2 hs hp)
  · intro n i Q hi hQ ih
    subst hQ
    exact br_f (nI_ge (b := 256) hi (by decide)) ⟨vp_in_nI hi (by decide), tl_st (256 * s + i) (tl_Y256 s i) (by omega) (by decide) _ (tl_fillS (by rw [nI_clamp (by omega)])) (nm_r (nI_1 i) (ih _ rfl))⟩
theorem tl_enc_new {s : Nat} (hs : s < 2) (hE : tl_enc C K SV) : tl_enc (tl_fill C (256 * s) 256 (tl_ge P V)) (tl_fill K (256 * s) 256 P) (tl_fill SV (12 * s) 12 V) := by
  refine tl_enc_i (fun t ht => ?_)
  by_cases h : t = s
  · subst h
    exact tl_enc_c (tl_enc_g P V) (fun i hi => tl_fan i hi) (fun i hi => tl_fan i hi) (fun i hi => tl_fan i hi)
  · exact tl_enc_c (tl_enc_e hE ht) (fun i hi => tl_fout (by omega)) (fun i hi => tl_fout (by omega)) (fun i hi => tl_fout (by omega))
end
theorem i_vc_encode {k : Nat} {u : SX} {v : SY} (I : i_Rel k u v) (hk : k + 5 ≤ 2560) (v1 : Int32) : wpX_encode (fun r u' => wpY_encode (fun r' v' => r' = r ∧ i_Rel (k + 5) u' v') v v1) u v1 := by
  obtain ⟨P, V, O, OV, C, K, SV, F, rfl, rfl, hP, hO, hK, hE⟩ := I
  unfold wpX_encode wpY_encode
  dsimp only
  rcases tl_ix 2 v1 (by decide) with b1 | ⟨s, hs, rfl⟩
  · exact tl_isS_b b1 (br_t rfl (tl_bS_b b1 (br_f (by decide) ⟨rfl, tl_rel _ hP hO hK hE⟩)))
  refine tl_isS_g hs (br_f (by decide) ?_)
  refine tl_eX hs ?_
  refine tl_bS_g hs (br_t rfl ?_)
  refine tl_eY hs ?_
  exact ⟨rfl, tl_rel _ hP hO (tl_pixfill hK (fun i hi => hP i hi)) (tl_enc_new hs hE)⟩
/-! copySlot -/
section
variable {P V O OV C K SV F : Nat → Int32}
theorem tl_cX2 {post : Int32 → SX → Prop} {s o : Nat} (hs : s < 2) (ho : o < 2) (hso : o ≠ s) (hp : post 0 (P, V, O, OV, C, tl_fill SV (12 * o) 12 (fun i => SV (12 * s + i)), upd F o (vp_nar .boolean (F s)))) :
    ∃ n, wX_copySlot_54 post (nI s) (nI o) n 0 P V O OV C SV F := by
  refine loop_0 (fun n i Q => wX_copySlot_54 post (nI s) (nI o) n (nI i) P V O OV C Q F) (fun i Q => Q = tl_fill SV (12 * o) i (fun i => SV (12 * s + i))) 12 _ (tl_fill0 _ _ _).symm ?_ ?_
  · intro n Q hQ
    subst hQ
    refine br_t (tl_le 12) ⟨vp_in_nI hs (by decide), ?_⟩
    rw [nI_clamp (n := s) (by omega)]
    exact tl_st o rfl ho (by decide) _ rfl hp
  · intro n i Q hi hQ ih
    subst hQ
    refine br_f (nI_ge (b := 12) hi (by decide)) ?_
    rw [tl_X12, tl_X12]
    refine ⟨vp_in_nI (by omega) (by decide), ?_⟩
    refine tl_st (12 * o + i) rfl (by omega) (by decide) _ (tl_fillS ?_) (nm_r (nI_1 i) (ih _ rfl))
    rw [nI_clamp (by omega)]
    exact tl_fout (by omega)
theorem tl_cX {post : Int32 → SX → Prop} {s o : Nat} (hs : s < 2) (ho : o < 2) (hso : o ≠ s) (hp : post 0 (P, V, O, OV, tl_fill C (256 * o) 256 (fun i => C (256 * s + i)), tl_fill SV (12 * o) 12 (fun i => SV (12 * s + i)), upd F o (vp_nar .boolean (F s)))) :
    ∃ n, wX_copySlot_15 post (nI s) (nI o) n 0 P V O OV C SV F := by
  refine loop_0 (fun n i Q => wX_copySlot_15 post (nI s) (nI o) n (nI i) P V O OV Q SV F) (fun i Q => Q = tl_fill C (256 * o) i (fun i => C (256 * s + i))) 256 _ (tl_fill0 _ _ _).symm ?_ ?_
  · intro n Q hQ
    subst hQ
    exact br_t (tl_le 256) (tl_cX2 hs ho hso hp)
  · intro n i Q hi hQ ih
    subst hQ
    refine br_f (nI_ge (b := 256) hi (by decide)) ?_
    rw [tl_X256, tl_X256]
    refine ⟨vp_in_nI (by omega) (by decide), ?_⟩
    refine tl_st (256 * o + i) rfl (by omega) (by decide) _ (tl_fillS ?_) (nm_r (nI_1 i) (ih _ rfl))
    rw [nI_clamp (by omega)]
    exact tl_fout (by omega)
theorem tl_cY2 {post : Int32 → SY → Prop} {s o : Nat} (hs : s < 2) (ho : o < 2) (hso : o ≠ s) (hp : post 0 (P, O, K, V, OV, tl_fill SV (12 * o) 12 (fun i => SV (12 * s + i)), upd F o (vp_nar .boolean (F s)))) :
    ∃ n, wY_copySlot_55 post (nI s) (nI o) n 0 P O K V OV SV F := by
  refine loop_0 (fun n i Q => wY_copySlot_55 post (nI s) (nI o) n (nI i) P O K V OV Q F) (fun i Q => Q = tl_fill SV (12 * o) i (fun i => SV (12 * s + i))) 12 _ (tl_fill0 _ _ _).symm ?_ ?_
  · intro n Q hQ
    subst hQ
    refine br_t (tl_le 12) ⟨vp_in_nI hs (by decide), ?_⟩
    rw [nI_clamp (n := s) (by omega)]
    exact tl_st o rfl ho (by decide) _ rfl hp
  · intro n i Q hi hQ ih
    subst hQ
    refine br_f (nI_ge (b := 12) hi (by decide)) ?_
    rw [tl_Y12, tl_Y12]
    refine ⟨vp_in_nI (by omega) (by decide), ?_⟩
    refine tl_st (12 * o + i) rfl (by omega) (by decide) _ (tl_fillS ?_) (nm_r (nI_1 i) (ih _ rfl))
    rw [nI_clamp (by omega)]
    exact tl_fout (by omega)
theorem tl_cY {post : Int32 → SY → Prop} {s o : Nat} (hs : s < 2) (ho : o < 2) (hso : o ≠ s) (hp : post 0 (P, O, tl_fill K (256 * o) 256 (fun i => K (256 * s + i)), V, OV, tl_fill SV (12 * o) 12 (fun i => SV (12 * s + i)), upd F o (vp_nar .boolean (F s)))) :
    ∃ n, wY_copySlot_16 post (nI s) (nI o) n 0 P O K V OV SV F := by
  refine loop_0 (fun n i Q => wY_copySlot_16 post (nI s) (nI o) n (nI i) P O Q V OV SV F) (fun i Q => Q = tl_fill K (256 * o) i (fun i => K (256 * s + i))) 256 _ (tl_fill0 _ _ _).symm ?_ ?_
  · intro n Q hQ
    subst hQ
    exact br_t (tl_le 256) (tl_cY2 hs ho hso hp)
  · intro n i Q hi hQ ih
    subst hQ
    refine br_f (nI_ge (b := 256) hi (by decide)) ?_
    rw [tl_Y256, tl_Y256]
    refine ⟨vp_in_nI (by omega) (by decide), ?_⟩
    refine tl_st (256 * o + i) rfl (by omega) (by decide) _ (tl_fillS ?_) (nm_r (nI_1 i) (ih _ rfl))
    rw [nI_clamp (by omega)]
    exact tl_fout (by omega)
theorem tl_enc_copy {s o : Nat} (hs : s < 2) (ho : o < 2) (hso : o ≠ s) (hE : tl_enc C K SV) : tl_enc (tl_fill C (256 * o) 256 (fun i => C (256 * s + i))) (tl_fill K (256 * o) 256 (fun i => K (256 * s + i))) (tl_fill SV (12 * o) 12 (fun i => SV (12 * s + i))) := by
  refine tl_enc_i (fun t ht => ?_)
  by_cases h : t = o
  · subst h
    exact tl_enc_c (tl_enc_e hE hs) (fun i hi => tl_fan i hi) (fun i hi => tl_fan i hi) (fun i hi => tl_fan i hi)
  · exact tl_enc_c (tl_enc_e hE ht) (fun i hi => tl_fout (by omega)) (fun i hi => tl_fout (by omega)) (fun i hi => tl_fout (by omega))
end
theorem i_vc_copySlot {k : Nat} {u : SX} {v : SY} (I : i_Rel k u v) (hk : k + 5 ≤ 2560) (v1 : Int32) : wpX_copySlot (fun r u' => wpY_copySlot (fun r' v' => r' = r ∧ i_Rel (k + 5) u' v') v v1) u v1 := by
  obtain ⟨P, V, O, OV, C, K, SV, F, rfl, rfl, hP, hO, hK, hE⟩ := I
  unfold wpX_copySlot wpY_copySlot
  dsimp only
  rcases tl_ix 2 v1 (by decide) with b1 | ⟨s, hs, rfl⟩
  · exact tl_isS_b b1 (br_t rfl (tl_bS_b b1 (br_f (by decide) ⟨rfl, tl_rel _ hP hO hK hE⟩)))
  have e : 1 - nI s = nI (1 - s) := pk_sub (a := 1) (by omega)
  have ho : 1 - s < 2 := by omega
  have hso : 1 - s ≠ s := by omega
  refine tl_isS_g hs (br_f (by decide) (nm_r e ?_))
  refine tl_cX hs ho hso ?_
  refine tl_bS_g hs (br_t rfl (nm_r e ?_))
  refine tl_cY hs ho hso ?_
  exact ⟨rfl, tl_rel _ hP hO (tl_pixfill hK (fun i hi => hK _ (by omega))) (tl_enc_copy hs ho hso hE)⟩
end
section
section
variable {P V O OV C K SV F : Nat → Int32}
/-- what one frame of the slot stands for -/
def tl_gk (K : Nat → Int32) (s f : Nat) : Nat → Int32 := fun i => K (256 * s + (64 * f + i))
theorem tl_dec1 {s f y x n : Nat} (hs : s < 2) (hf : f < 4) (hy : y < 8) (hx : x < 8) (hK : tl_pix K 512) (hE : tl_enc C K SV)
    (h0 : f = 1 → ∀ i, i < 64 → O i = K (256 * s + i)) (h2 : f = 1 ∨ f = 3 → ∀ i, i < 64 → O (128 + i) = K (256 * s + (128 + i))) (hV : ∀ i, i < 12 → OV i = SV (12 * s + i)) (hn : n ≤ 64) :
    (C (256 * s + (64 * f + (8 * y + x))) + tl_pr (tl_fill O (64 * f) n (tl_gk K s f)) OV f x y) &&& 255 = tl_gk K s f (8 * y + x) := by
  have e : tl_pr (tl_fill O (64 * f) n (tl_gk K s f)) OV f x y = tl_pr (fun j => K (256 * s + j)) (fun j => SV (12 * s + j)) f x y := by
    refine tl_pr_c hx hy ?_ ?_ hV
    · intro f1 i hi
      rw [tl_fout (by omega)]
      exact h0 f1 i hi
    · intro f13 i hi
      rw [tl_fout (by omega)]
      exact h2 f13 i hi
  rw [e, hE s f y x hs hf hy hx, tl_undo]
  exact hK _ (by omega)
theorem tl_dfX1 {post : SX → Prop} {J : Int32 → (Nat → Int32) → (Nat → Int32) → (Nat → Int32) → (Nat → Int32) → (Nat → Int32) → (Nat → Int32) → (Nat → Int32) → Prop} {s f y : Nat} (hs : s < 2) (hf : f < 4) (hy : y < 8) (hK : tl_pix K 512) (hE : tl_enc C K SV)
    (h0 : f = 1 → ∀ i, i < 64 → O i = K (256 * s + i)) (h2 : f = 1 ∨ f = 3 → ∀ i, i < 64 → O (128 + i) = K (256 * s + (128 + i))) (hV : ∀ i, i < 12 → OV i = SV (12 * s + i))
    (hJ : J (nI (y + 1)) P V (tl_fill O (64 * f) (8 * (y + 1)) (tl_gk K s f)) OV C SV F) :
    ∃ n, wX_decodeFrame_11 post J (nI s) (nI f) (nI y) n 0 P V (tl_fill O (64 * f) (8 * y) (tl_gk K s f)) OV C SV F := by
  refine loop_0 (fun n i Q => wX_decodeFrame_11 post J (nI s) (nI f) (nI y) n (nI i) P V Q OV C SV F) (fun i Q => Q = tl_fill O (64 * f) (8 * y + i) (tl_gk K s f)) 8 _ rfl ?_ ?_
  · intro n Q hQ
    subst hQ
    exact br_t tl_le8 (nm_r (nI_1 y) hJ)
  · intro n i Q hi hQ ih
    subst hQ
    refine br_f (nI_ge (b := 8) hi (by decide)) (tl_plX ?_)
    refine tl_prO hf hi hy ?_
    rw [tl_X256]
    refine ⟨vp_in_nI (by omega) (by decide), ?_⟩
    rw [nI_clamp (n := 256 * s + (64 * f + (8 * y + i))) (by omega)]
    exact tl_put (by omega) (by decide) (tl_dec1 hs hf hy hi hK hE h0 h2 hV (by omega)) (nm_r (nI_1 i) (ih _ rfl))
theorem tl_dfX {post : SX → Prop} {s f : Nat} (hs : s < 2) (hf : f < 4) (hK : tl_pix K 512) (hE : tl_enc C K SV)
    (h0 : f = 1 → ∀ i, i < 64 → O i = K (256 * s + i)) (h2 : f = 1 ∨ f = 3 → ∀ i, i < 64 → O (128 + i) = K (256 * s + (128 + i))) (hV : ∀ i, i < 12 → OV i = SV (12 * s + i))
    (hp : post (P, V, tl_fill O (64 * f) 64 (tl_gk K s f), OV, C, SV, F)) :
    wpX_decodeFrame post (P, V, O, OV, C, SV, F) (nI s) (nI f) := by
  refine loop_0 (fun n i Q => wX_decodeFrame_2 post (nI s) (nI f) n (nI i) P V Q OV C SV F) (fun i Q => Q = tl_fill O (64 * f) (8 * i) (tl_gk K s f)) 8 _ (tl_fill0 _ _ _).symm ?_ ?_
  · intro n Q hQ
    subst hQ
    exact br_t tl_le8 hp
  · intro n i Q hi hQ ih
    subst hQ
    exact br_f (nI_ge (b := 8) hi (by decide)) (tl_dfX1 hs hf hi hK hE h0 h2 hV (ih _ rfl))
theorem tl_dsX {post : Int32 → SX → Prop} (hp : post (tl_sum O 256) (P, V, O, OV, C, SV, F)) : ∃ n, wX_decode_80 post P V O OV C SV F n 0 0 := by
  refine loop_0 (fun n i s => wX_decode_80 post P V O OV C SV F n s (nI i)) (fun i s => s = tl_sum O i) 256 _ rfl ?_ ?_
  · intro n s hs
    subst hs
    exact br_t (tl_le 256) hp
  · intro n i s hi hs ih
    subst hs
    refine br_f (nI_ge (b := 256) hi (by decide)) ⟨vp_in_nI hi (by decide), ?_⟩
    rw [nI_clamp (by omega)]
    exact nm_e (nm_r (nI_1 i) (ih _ rfl))
/-- the four frames in the order 0, 2, 1, 3 are the whole group -/
theorem tl_four (O K : Nat → Int32) (s : Nat) : tl_fill (tl_fill (tl_fill (tl_fill O (64 * 0) 64 (tl_gk K s 0)) (64 * 2) 64 (tl_gk K s 2)) (64 * 1) 64 (tl_gk K s 1)) (64 * 3) 64 (tl_gk K s 3) = tl_fill O 0 256 (fun i => K (256 * s + i)) := by
  funext j
  by_cases h3 : 64 * 3 ≤ j ∧ j < 64 * 3 + 64
  · rw [tl_fin h3.1 h3.2, tl_fin (by omega) (by omega)]
    exact congrArg K (by omega)
  rw [tl_fout h3]
  by_cases h1 : 64 * 1 ≤ j ∧ j < 64 * 1 + 64
  · rw [tl_fin h1.1 h1.2, tl_fin (by omega) (by omega)]
    exact congrArg K (by omega)
  rw [tl_fout h1]
  by_cases h2 : 64 * 2 ≤ j ∧ j < 64 * 2 + 64
  · rw [tl_fin h2.1 h2.2, tl_fin (by omega) (by omega)]
    exact congrArg K (by omega)
  rw [tl_fout h2]
  by_cases h0 : 64 * 0 ≤ j ∧ j < 64 * 0 + 64
  · rw [tl_fin h0.1 h0.2, tl_fin (by omega) (by omega)]
    exact congrArg K (by omega)
  rw [tl_fout h0, tl_fout (by omega)]
theorem tl_dX {post : Int32 → SX → Prop} {s : Nat} (hs : s < 2) (hK : tl_pix K 512) (hE : tl_enc C K SV)
    (hp : post (tl_sum (fun i => K (256 * s + i)) 256) (P, V, tl_fill O 0 256 (fun i => K (256 * s + i)), tl_fill OV 0 12 (fun i => SV (12 * s + i)), C, SV, F)) :
    ∃ n, wX_decode_23 post (nI s) n 0 P V O OV C SV F := by
  refine loop_0 (fun n i Q => wX_decode_23 post (nI s) n (nI i) P V O Q C SV F) (fun i Q => Q = tl_fill OV 0 i (fun i => SV (12 * s + i))) 12 _ (tl_fill0 _ _ _).symm ?_ ?_
  · intro n Q hQ
    subst hQ
    have hV : ∀ i, i < 12 → tl_fill OV 0 12 (fun i => SV (12 * s + i)) i = SV (12 * s + i) := fun i hi => by
      rw [tl_fin (by omega) (by omega)]
      rfl
    have e := tl_four O K s
    have es : tl_sum (tl_fill O 0 256 (fun i => K (256 * s + i))) 256 = tl_sum (fun i => K (256 * s + i)) 256 := tl_sum_c 256 (fun i hi => by
      rw [tl_fin (by omega) (by omega)]
      rfl)
    refine br_t (tl_le 12) ?_
    refine tl_dfX (f := 0) hs (by omega) hK hE (by omega) (by omega) hV ?_
    refine tl_dfX (f := 2) hs (by omega) hK hE (by omega) (by omega) hV ?_
    refine tl_dfX (f := 1) hs (by omega) hK hE ?_ ?_ hV ?_
    · intro _ i hi
      rw [tl_fout (by omega), tl_fin (by omega) (by omega)]
      exact congrArg K (by omega)
    · intro _ i hi
      rw [tl_fin (by omega) (by omega)]
      exact congrArg K (by omega)
    refine tl_dfX (f := 3) hs (by omega) hK hE (by omega) ?_ hV ?_
    · intro _ i hi
      rw [tl_fout (by omega), tl_fin (by omega) (by omega)]
      exact congrArg K (by omega)
    rw [e]
    refine tl_dsX ?_
    rw [es]
    exact hp
  · intro n i Q hi hQ ih
    subst hQ
    refine br_f (nI_ge (b := 12) hi (by decide)) ?_
    rw [tl_X12]
    refine ⟨vp_in_nI (by omega) (by decide), ?_⟩
    rw [nI_clamp (n := 12 * s + i) (by omega)]
    exact tl_st i rfl hi (by decide) _ (tl_fillZ rfl) (nm_r (nI_1 i) (ih _ rfl))
theorem tl_dY2 {post : Int32 → SY → Prop} {s : Nat} {r : Int32} (hs : s < 2) (hp : post r (P, O, K, V, tl_fill OV 0 12 (fun i => SV (12 * s + i)), SV, F)) :
    ∃ n, wY_decode_68 post (nI s) r n 0 P O K V OV SV F := by
  refine loop_0 (fun n i Q => wY_decode_68 post (nI s) r n (nI i) P O K V Q SV F) (fun i Q => Q = tl_fill OV 0 i (fun i => SV (12 * s + i))) 12 _ (tl_fill0 _ _ _).symm ?_ ?_
  · intro n Q hQ
    subst hQ
    exact br_t (tl_le 12) hp
  · intro n i Q hi hQ ih
    subst hQ
    refine br_f (nI_ge (b := 12) hi (by decide)) ?_
    rw [tl_Y12]
    refine ⟨vp_in_nI (by omega) (by decide), ?_⟩
    rw [nI_clamp (n := 12 * s + i) (by omega)]
    exact tl_st i rfl hi (by decide) _ (tl_fillZ rfl) (nm_r (nI_1 i) (ih _ rfl))
theorem tl_dY {post : Int32 → SY → Prop} {s : Nat} (hs : s < 2)
    (hp : post (tl_sum (fun i => K (256 * s + i)) 256) (P, tl_fill O 0 256 (fun i => K (256 * s + i)), K, V, tl_fill OV 0 12 (fun i => SV (12 * s + i)), SV, F)) :
    ∃ n, wY_decode_26 post (nI s) n 0 0 P O K V OV SV F := by
  refine loop_0 (fun n i (q : Int32 × (Nat → Int32)) => wY_decode_26 post (nI s) n q.1 (nI i) P q.2 K V OV SV F) (fun i q => q = (tl_sum (fun i => K (256 * s + i)) i, tl_fill O 0 i (fun i => K (256 * s + i)))) 256 (0, O) ?_ ?_ ?_
  · rw [tl_fill0]
    rfl
  · intro n q hq
    subst hq
    exact br_t (tl_le 256) (tl_dY2 hs hp)
  · intro n i q hi hq ih
    subst hq
    refine br_f (nI_ge (b := 256) hi (by decide)) ?_
    dsimp only
    rw [tl_Y256]
    refine ⟨vp_in_nI (by omega) (by decide), ?_⟩
    rw [nI_clamp (n := 256 * s + i) (by omega)]
    refine tl_st i rfl hi (by decide) (tl_fill O 0 (i + 1) (fun i => K (256 * s + i))) (tl_fillZ (g := fun i => K (256 * s + i)) rfl) ⟨vp_in_nI hi (by decide), ?_⟩
    refine nm_r (e' := tl_sum (fun i => K (256 * s + i)) (i + 1)) ?_ (nm_r (nI_1 i) (ih (_, _) rfl))
    rw [nI_clamp (n := i) (by omega), tl_fin (by omega) (by omega)]
    rfl
end
theorem i_vc_decode {k : Nat} {u : SX} {v : SY} (I : i_Rel k u v) (hk : k + 5 ≤ 2560) (v1 : Int32) : wpX_decode (fun r u' => wpY_decode (fun r' v' => r' = r ∧ i_Rel (k + 5) u' v') v v1) u v1 := by
  obtain ⟨P, V, O, OV, C, K, SV, F, rfl, rfl, hP, hO, hK, hE⟩ := I
  unfold wpX_decode wpY_decode
  dsimp only
  rcases tl_ix 2 v1 (by decide) with b1 | ⟨s, hs, rfl⟩
  · exact tl_isS_b b1 (br_t rfl (tl_bS_b b1 (br_f (by decide) ⟨rfl, tl_rel _ hP hO hK hE⟩)))
  have hi : vp_in (nI s) 2 := vp_in_nI hs (by decide)
  refine tl_isS_g hs (br_f (by decide) ⟨hi, ?_⟩)
  by_cases z : F (nI s).toNatClampNeg = 0
  · exact br_t z (tl_bS_g hs (br_t rfl ⟨hi, br_t z ⟨rfl, tl_rel _ hP hO hK hE⟩⟩))
  refine br_f z ?_
  refine tl_dX hs hK hE ?_
  refine tl_bS_g hs (br_t rfl ⟨hi, br_f z ?_⟩)
  refine tl_dY hs ?_
  exact ⟨rfl, tl_rel _ hP (tl_pixfill hO (fun i hi => hK _ (by omega))) hK hE⟩
end
section
/-! invert: the box, counted along the frame's 64 places -/
abbrev tl_bx (x0 y0 i : Nat) : Prop := x0 ≤ i % 8 ∧ i % 8 < x0 + 3 ∧ y0 ≤ i / 8 ∧ i / 8 < y0 + 3
def tl_inv (P : Nat → Int32) (lo x0 y0 n : Nat) : Nat → Int32 := fun j => if (lo ≤ j ∧ j < lo + n) ∧ tl_bx x0 y0 (j - lo) then 255 - P j else P j
def tl_cnt (x0 y0 : Nat) : Nat → Nat
  | 0 => 0
  | n + 1 => tl_cnt x0 y0 n + (if tl_bx x0 y0 n then 1 else 0)
theorem tl_inv0 (P : Nat → Int32) (lo x0 y0 : Nat) : tl_inv P lo x0 y0 0 = P := by
  funext j
  exact if_neg (fun h => by omega)
theorem tl_invS {P : Nat → Int32} {lo x0 y0 n : Nat} (h : tl_bx x0 y0 n) : upd (tl_inv P lo x0 y0 n) (lo + n) (255 - tl_inv P lo x0 y0 n (lo + n)) = tl_inv P lo x0 y0 (n + 1) := by
  have e : tl_inv P lo x0 y0 n (lo + n) = P (lo + n) := if_neg (fun h => by omega)
  rw [e]
  funext j
  by_cases hj : j = lo + n
  · subst hj
    rw [pk_us]
    exact (if_pos ⟨⟨by omega, by omega⟩, by rw [Nat.add_sub_cancel_left]; exact h⟩).symm
  · rw [pk_un hj]
    unfold tl_inv
    by_cases h2 : (lo ≤ j ∧ j < lo + n) ∧ tl_bx x0 y0 (j - lo)
    · rw [if_pos h2, if_pos ⟨⟨h2.1.1, by omega⟩, h2.2⟩]
    · rw [if_neg h2, if_neg (fun h3 => h2 ⟨⟨h3.1.1, by omega⟩, h3.2⟩)]
theorem tl_invN {P : Nat → Int32} {lo x0 y0 n : Nat} (h : ¬ tl_bx x0 y0 n) : tl_inv P lo x0 y0 (n + 1) = tl_inv P lo x0 y0 n := by
  funext j
  unfold tl_inv
  by_cases hj : j = lo + n
  · subst hj
    rw [if_neg (fun h3 => h (by have := h3.2; rw [Nat.add_sub_cancel_left] at this; exact this)), if_neg (fun h3 => by omega)]
  · by_cases h2 : (lo ≤ j ∧ j < lo + n) ∧ tl_bx x0 y0 (j - lo)
    · rw [if_pos h2, if_pos ⟨⟨h2.1.1, by omega⟩, h2.2⟩]
    · rw [if_neg h2, if_neg (fun h3 => h2 ⟨⟨h3.1.1, by omega⟩, h3.2⟩)]
theorem tl_cntS {x0 y0 n : Nat} (h : tl_bx x0 y0 n) : nI (tl_cnt x0 y0 n) + 1 = nI (tl_cnt x0 y0 (n + 1)) := by
  rw [nI_1]
  show _ = nI (tl_cnt x0 y0 n + (if tl_bx x0 y0 n then 1 else 0))
  rw [if_pos h]
theorem tl_cntN {x0 y0 n : Nat} (h : ¬ tl_bx x0 y0 n) : tl_cnt x0 y0 (n + 1) = tl_cnt x0 y0 n := by
  show tl_cnt x0 y0 n + (if tl_bx x0 y0 n then 1 else 0) = _
  rw [if_neg h, Nat.add_zero]
def tl_iq (P : Nat → Int32) (lo x0 y0 n : Nat) : Int32 × (Nat → Int32) := (nI (tl_cnt x0 y0 n), tl_inv P lo x0 y0 n)
theorem tl_iqN {P : Nat → Int32} {lo x0 y0 n : Nat} (h : ¬ tl_bx x0 y0 n) : tl_iq P lo x0 y0 n = tl_iq P lo x0 y0 (n + 1) := by
  unfold tl_iq
  rw [tl_invN h, tl_cntN h]
theorem tl_iqK {P : Nat → Int32} {lo x0 y0 n : Nat} : ∀ d : Nat, (∀ i, n ≤ i → i < n + d → ¬ tl_bx x0 y0 i) → tl_iq P lo x0 y0 n = tl_iq P lo x0 y0 (n + d) := by
  intro d
  induction d with
  | zero => intro _; rfl
  | succ d ih =>
    intro h
    rw [ih (fun i h1 h2 => h i h1 (by omega)), tl_iqN (h (n + d) (by omega) (by omega))]
    rfl
theorem tl_iqJ {P : Nat → Int32} {lo x0 y0 n m : Nat} (hm : n ≤ m) (h : ∀ i, n ≤ i → i < m → ¬ tl_bx x0 y0 i) : tl_iq P lo x0 y0 n = tl_iq P lo x0 y0 m := by
  have e := tl_iqK (P := P) (lo := lo) (x0 := x0) (y0 := y0) (n := n) (m - n) (fun i h1 h2 => h i h1 (by omega))
  rw [Nat.add_sub_cancel' hm] at e
  exact e
section
variable {P V O OV C K SV F : Nat → Int32}
theorem tl_ivX1 {post : Int32 → SX → Prop} {J : Int32 → Int32 → (Nat → Int32) → (Nat → Int32) → (Nat → Int32) → (Nat → Int32) → (Nat → Int32) → (Nat → Int32) → (Nat → Int32) → Prop} {f x0 y0 y : Nat} (hf : f < 4) (hx : x0 < 8) (h0 : y0 ≤ y) (h3 : y < y0 + 3) (hy : y < 8)
    (hJ : J (tl_iq P (64 * f) x0 y0 (8 * (y + 1) + x0)).1 (nI (y + 1)) (tl_iq P (64 * f) x0 y0 (8 * (y + 1) + x0)).2 V O OV C SV F) :
    ∃ n, wX_invert_44 post J (nI f) (nI x0) (nI y0) (nI y) n (tl_iq P (64 * f) x0 y0 (8 * y + x0)).1 (nI x0) (tl_iq P (64 * f) x0 y0 (8 * y + x0)).2 V O OV C SV F := by
  refine pk_loop (fun n i (q : Int32 × (Nat → Int32)) => wX_invert_44 post J (nI f) (nI x0) (nI y0) (nI y) n q.1 (nI i) q.2 V O OV C SV F) (fun i q => x0 ≤ i ∧ q = tl_iq P (64 * f) x0 y0 (8 * y + i)) (min (x0 + 3) 8) x0 (tl_iq P (64 * f) x0 y0 (8 * y + x0)) (by omega) ⟨Nat.le_refl _, rfl⟩ ?_ ?_
  · intro n q hq
    have e : tl_iq P (64 * f) x0 y0 (8 * y + min (x0 + 3) 8) = tl_iq P (64 * f) x0 y0 (8 * (y + 1) + x0) := tl_iqJ (by omega) (fun i h1 h2 h => by
      obtain ⟨a1, a2, a3, a4⟩ := h
      omega)
    rw [hq.2, e]
    exact pk_le (x0 + 3) (min (x0 + 3) 8) (fun _ => nm_r (nI_1 y) hJ) (fun _ => pk_le 8 (min (x0 + 3) 8) (fun _ => nm_r (nI_1 y) hJ) (fun h => by omega)) (hx := nI_add x0 3)
  · intro n i q hi hq ih
    obtain ⟨hi0, rfl⟩ := hq
    have hb : tl_bx x0 y0 (8 * y + i) := ⟨by omega, by omega, by omega, by omega⟩
    refine pk_le (x0 + 3) i (fun h => by omega) (fun _ => pk_le 8 i (fun h => by omega) (fun _ => ?_)) (hx := nI_add x0 3)
    have hn : vp_in (nI (64 * f + (8 * y + i))) 256 := tl_inw hf hy (by omega)
    refine tl_plX ⟨hn, ?_⟩
    refine tl_st (64 * f + (8 * y + i)) rfl (by omega) (by decide) (tl_inv P (64 * f) x0 y0 (8 * y + (i + 1))) ?_ (nm_r (tl_cntS hb) (nm_r (nI_1 i) (ih (tl_iq P (64 * f) x0 y0 (8 * y + (i + 1))) ⟨by omega, rfl⟩)))
    rw [nI_clamp (by omega)]
    exact tl_invS hb
theorem tl_ivX {post : Int32 → SX → Prop} {f x0 y0 : Nat} (hf : f < 4) (hx : x0 < 8) (hy : y0 < 8)
    (hp : post (nI (tl_cnt x0 y0 64)) (tl_inv P (64 * f) x0 y0 64, V, O, OV, C, SV, F)) :
    ∃ n, wX_invert_26 post (nI f) (nI x0) (nI y0) n 0 (nI y0) P V O OV C SV F := by
  have e0 : (((0 : Int32), P) : Int32 × (Nat → Int32)) = tl_iq P (64 * f) x0 y0 (8 * y0 + x0) := by
    rw [← tl_iqJ (n := 0) (by omega) (fun i h1 h2 h => by
      obtain ⟨a1, a2, a3, a4⟩ := h
      omega)]
    unfold tl_iq
    rw [tl_inv0]
    rfl
  refine pk_loop (fun n i (q : Int32 × (Nat → Int32)) => wX_invert_26 post (nI f) (nI x0) (nI y0) n q.1 (nI i) q.2 V O OV C SV F) (fun i q => y0 ≤ i ∧ q = tl_iq P (64 * f) x0 y0 (8 * i + x0)) (min (y0 + 3) 8) y0 (0, P) (by omega) ⟨Nat.le_refl _, e0⟩ ?_ ?_
  · intro n q hq
    have e : tl_iq P (64 * f) x0 y0 (8 * min (y0 + 3) 8 + x0) = tl_iq P (64 * f) x0 y0 64 := by
      by_cases h5 : y0 + 3 < 8
      · exact tl_iqJ (by omega) (fun i h1 h2 h => by
          obtain ⟨a1, a2, a3, a4⟩ := h
          omega)
      · exact (tl_iqJ (by omega) (fun i h1 h2 h => by
          obtain ⟨a1, a2, a3, a4⟩ := h
          omega)).symm
    rw [hq.2, e]
    exact pk_le (y0 + 3) (min (y0 + 3) 8) (fun _ => hp) (fun _ => pk_le 8 (min (y0 + 3) 8) (fun _ => hp) (fun h => by omega)) (hx := nI_add y0 3)
  · intro n i q hi hq ih
    obtain ⟨hi0, rfl⟩ := hq
    refine pk_le (y0 + 3) i (fun h => by omega) (fun _ => pk_le 8 i (fun h => by omega) (fun _ => ?_)) (hx := nI_add y0 3)
    exact tl_ivX1 hf hx hi0 (by omega) (by omega) (ih _ ⟨by omega, rfl⟩)
theorem tl_ivY1 {post : Int32 → SY → Prop} {J : Int32 → Int32 → (Nat → Int32) → (Nat → Int32) → (Nat → Int32) → (Nat → Int32) → (Nat → Int32) → (Nat → Int32) → (Nat → Int32) → Prop} {f x0 y0 y : Nat} (hf : f < 4) (hx : x0 < 8) (hy0 : y0 < 8) (hy : y < 8)
    (hJ : J (tl_iq P (64 * f) x0 y0 (8 * (y + 1))).1 (nI (y + 1)) (tl_iq P (64 * f) x0 y0 (8 * (y + 1))).2 O K V OV SV F) :
    ∃ n, wY_invert_45 post J (nI f) (nI x0) (nI y0) (nI y) n (tl_iq P (64 * f) x0 y0 (8 * y)).1 0 (tl_iq P (64 * f) x0 y0 (8 * y)).2 O K V OV SV F := by
  refine loop_0 (fun n i (q : Int32 × (Nat → Int32)) => wY_invert_45 post J (nI f) (nI x0) (nI y0) (nI y) n q.1 (nI i) q.2 O K V OV SV F) (fun i q => q = tl_iq P (64 * f) x0 y0 (8 * y + i)) 8 (tl_iq P (64 * f) x0 y0 (8 * y)) rfl ?_ ?_
  · intro n q hq
    subst hq
    exact br_t tl_le8 (nm_r (nI_1 y) hJ)
  · intro n i q hi hq ih
    subst hq
    have sk : ¬ tl_bx x0 y0 (8 * y + i) → ∀ x : Int32, x = nI i + 1 → wY_invert_45 post J (nI f) (nI x0) (nI y0) (nI y) n (tl_iq P (64 * f) x0 y0 (8 * y + i)).1 x (tl_iq P (64 * f) x0 y0 (8 * y + i)).2 O K V OV SV F := fun hb => nm_r (nI_1 i) (ih _ (tl_iqN hb))
    refine br_f (nI_ge (b := 8) hi (by decide)) (nm_r (tl_pY f y i) ?_)
    refine pk_lt i x0 (fun h => sk (fun hb => by
      obtain ⟨a1, a2, a3, a4⟩ := hb
      omega)) (fun h1 => ?_)
    refine pk_lt (x0 + 2) i (fun h => sk (fun hb => by
      obtain ⟨a1, a2, a3, a4⟩ := hb
      omega)) (fun h2 => ?_) (hx := nI_add x0 2)
    refine pk_lt y y0 (fun h => sk (fun hb => by
      obtain ⟨a1, a2, a3, a4⟩ := hb
      omega)) (fun h3 => ?_)
    refine pk_lt (y0 + 2) y (fun h => sk (fun hb => by
      obtain ⟨a1, a2, a3, a4⟩ := hb
      omega)) (fun h4 => ?_) (hx := nI_add y0 2)
    have hb : tl_bx x0 y0 (8 * y + i) := ⟨by omega, by omega, by omega, by omega⟩
    refine ⟨tl_inw hf hy hi, ?_⟩
    refine tl_st (64 * f + (8 * y + i)) rfl (by omega) (by decide) (tl_inv P (64 * f) x0 y0 (8 * y + (i + 1))) ?_ (nm_r (tl_cntS hb) (nm_r (nI_1 i) (ih (tl_iq P (64 * f) x0 y0 (8 * y + (i + 1))) rfl)))
    rw [nI_clamp (by omega)]
    exact tl_invS hb
theorem tl_ivY {post : Int32 → SY → Prop} {f x0 y0 : Nat} (hf : f < 4) (hx : x0 < 8) (hy : y0 < 8)
    (hp : post (nI (tl_cnt x0 y0 64)) (tl_inv P (64 * f) x0 y0 64, O, K, V, OV, SV, F)) :
    ∃ n, wY_invert_35 post (nI f) (nI x0) (nI y0) n 0 0 P O K V OV SV F := by
  refine loop_0 (fun n i (q : Int32 × (Nat → Int32)) => wY_invert_35 post (nI f) (nI x0) (nI y0) n q.1 (nI i) q.2 O K V OV SV F) (fun i q => q = tl_iq P (64 * f) x0 y0 (8 * i)) 8 (0, P) ?_ ?_ ?_
  · show _ = tl_iq P (64 * f) x0 y0 0
    unfold tl_iq
    rw [tl_inv0]
    rfl
  · intro n q hq
    subst hq
    exact br_t tl_le8 hp
  · intro n i q hi hq ih
    subst hq
    exact br_f (nI_ge (b := 8) hi (by decide)) (tl_ivY1 hf hx hy hi (ih _ rfl))
end
theorem tl_pixinv {P : Nat → Int32} {lo x0 y0 n : Nat} (hP : tl_pix P 256) : tl_pix (tl_inv P lo x0 y0 n) 256 := by
  intro j hj
  unfold tl_inv
  by_cases h2 : (lo ≤ j ∧ j < lo + n) ∧ tl_bx x0 y0 (j - lo)
  · rw [if_pos h2]
    obtain ⟨q, hq, e⟩ := tl_pixN (hP j hj)
    have e2 : 255 - P j = nI (255 - q) := by
      rw [e]
      exact pk_sub (a := 255) (by omega)
    rw [e2]
    exact tl_nIpix (by omega)
  · rw [if_neg h2]
    exact hP j hj
theorem i_vc_invert {k : Nat} {u : SX} {v : SY} (I : i_Rel k u v) (hk : k + 5 ≤ 2560) (v1 : Int32) (v2 : Int32) (v3 : Int32) : wpX_invert (fun r u' => wpY_invert (fun r' v' => r' = r ∧ i_Rel (k + 5) u' v') v v1 v2 v3) u v1 v2 v3 := by
  obtain ⟨P, V, O, OV, C, K, SV, F, rfl, rfl, hP, hO, hK, hE⟩ := I
  unfold wpX_invert wpY_invert
  dsimp only
  rcases tl_ix 4 v1 (by decide) with b1 | ⟨f, hf, rfl⟩
  · exact tl_isF_b b1 (br_t rfl (tl_bF_b b1 (br_f (by decide) ⟨rfl, tl_rel _ hP hO hK hE⟩)))
  refine tl_isF_g hf (br_f (by decide) ?_)
  rcases tl_ix 8 v2 (by decide) with b2 | ⟨x, hx, rfl⟩
  · exact tl_isP_x b2 (br_t rfl (tl_bF_g hf (br_t rfl (tl_bP_b b2 (br_f (by decide) ⟨rfl, tl_rel _ hP hO hK hE⟩)))))
  rcases tl_ix 8 v3 (by decide) with b3 | ⟨y, hy, rfl⟩
  · exact tl_isP_y hx b3 (br_t rfl (tl_bF_g hf (br_t rfl (tl_bP_g hx (br_t rfl (tl_bP_b b3 (br_f (by decide) ⟨rfl, tl_rel _ hP hO hK hE⟩)))))))
  refine tl_isP_g hx hy (br_f (by decide) ?_)
  refine tl_ivX hf hx hy ?_
  refine tl_bF_g hf (br_t rfl (tl_bP_g hx (br_t rfl (tl_bP_g hy (br_t rfl ?_)))))
  refine tl_ivY hf hx hy ?_
  exact ⟨rfl, tl_rel _ (tl_pixinv hP) hO hK hE⟩
end
section
/-! the cost of a step -/
def tl_csN (P : Nat → Int32) (p q : Nat) (dx dy : Int32) (left top : Nat) : Nat → Int32
  | 0 => 0
  | n + 1 => tl_csN P p q dx dy left top n + tl_sz (P (64 * p + (8 * (top + n / 4) + (left + n % 4))) - tl_at P q (nI (left + n % 4) + dx) (nI (top + n / 4) + dy))
theorem tl_csS {P : Nat → Int32} {p q : Nat} {dx dy : Int32} {left top i j : Nat} (hj : j < 4) : tl_csN P p q dx dy left top (4 * i + j) + tl_sz (P (64 * p + (8 * (top + i) + (left + j))) - tl_at P q (nI (left + j) + dx) (nI (top + i) + dy)) = tl_csN P p q dx dy left top (4 * i + (j + 1)) := by
  show _ = tl_csN P p q dx dy left top (4 * i + j) + tl_sz (P (64 * p + (8 * (top + (4 * i + j) / 4) + (left + (4 * i + j) % 4))) - tl_at P q (nI (left + (4 * i + j) % 4) + dx) (nI (top + (4 * i + j) / 4) + dy))
  rw [show (4 * i + j) / 4 = i from by omega, show (4 * i + j) % 4 = j from by omega]
def tl_cost (P : Nat → Int32) (l b s : Nat) : Int32 := tl_csN P (tl_pf l) (tl_sf l) (nI (s / 5) - 2) (nI (s % 5) - 2) (4 * (b % 2)) (4 * (b / 2)) 16
theorem tl_d5 {s : Nat} (h : s < 25) : nI s / 5 = nI (s / 5) := pk_div (d := 5) (by omega) (by decide) (by decide)
theorem tl_r5 {s : Nat} (h : s < 25) : nI s - nI s / 5 * 5 = nI (s % 5) := pk_rem (d := 5) (by omega) (by decide) (by decide)
theorem tl_left {b : Nat} (h : b < 4) : 4 * (nI b - nI b / 2 * 2) = nI (4 * (b % 2)) := by
  have e : nI b - nI b / 2 * 2 = nI (b % 2) := pk_rem (d := 2) (by omega) (by decide) (by decide)
  rw [e]
  exact pk_mul 4 _
theorem tl_top {b : Nat} (h : b < 4) : 4 * (nI b / 2) = nI (4 * (b / 2)) := by
  have e : nI b / 2 = nI (b / 2) := pk_div (d := 2) (by omega) (by decide) (by decide)
  rw [e]
  exact pk_mul 4 _
section
variable {P V O OV C K SV F : Nat → Int32}
theorem tl_coX1 {post : Int32 → Prop} {J : Int32 → Int32 → Prop} {p q left top i : Nat} {dx dy : Int32} (hp : p < 4) (hq : q < 4) (hl : left + 4 ≤ 8) (ht : top + 4 ≤ 8) (hi : i < 4)
    (hJ : J (tl_csN P p q dx dy left top (4 * (i + 1))) (nI (top + (i + 1)))) :
    ∃ n, wX_costOf_58 post J (nI p) (nI q) dx dy (nI left) (nI top) (nI (top + i)) P V O OV C SV F n (tl_csN P p q dx dy left top (4 * i)) (nI left) := by
  refine loop_0 (fun n j s => wX_costOf_58 post J (nI p) (nI q) dx dy (nI left) (nI top) (nI (top + i)) P V O OV C SV F n s (nI (left + j))) (fun j s => s = tl_csN P p q dx dy left top (4 * i + j)) 4 _ rfl ?_ ?_
  · intro n s hs
    subst hs
    exact pk_le (left + 4) (left + 4) (fun _ => nm_r (nI_1 (top + i)) hJ) (fun h => by omega) (hx := nI_add left 4)
  · intro n j s hj hs ih
    subst hs
    refine pk_le (left + 4) (left + j) (fun h => by omega) (fun _ => ?_) (hx := nI_add left 4)
    refine tl_plX (tl_neW hq ⟨vp_in_nI (by omega) (by decide), tl_szX ?_⟩)
    rw [nI_clamp (by omega)]
    exact nm_r (tl_csS hj) (nm_r (nI_1 (left + j)) (ih _ rfl))
theorem tl_coX2 {post : Int32 → Prop} {p q left top : Nat} {dx dy : Int32} (hp : p < 4) (hq : q < 4) (hl : left + 4 ≤ 8) (ht : top + 4 ≤ 8)
    (hP : post (tl_csN P p q dx dy left top 16)) :
    ∃ n, wX_costOf_45 post (nI p) (nI q) dx dy (nI left) (nI top) P V O OV C SV F n 0 (nI top) := by
  refine loop_0 (fun n i s => wX_costOf_45 post (nI p) (nI q) dx dy (nI left) (nI top) P V O OV C SV F n s (nI (top + i))) (fun i s => s = tl_csN P p q dx dy left top (4 * i)) 4 _ rfl ?_ ?_
  · intro n s hs
    subst hs
    exact pk_le (top + 4) (top + 4) (fun _ => hP) (fun h => by omega) (hx := nI_add top 4)
  · intro n i s hi hs ih
    subst hs
    refine pk_le (top + 4) (top + i) (fun h => by omega) (fun _ => ?_) (hx := nI_add top 4)
    exact tl_coX1 hp hq hl ht hi (ih _ rfl)
theorem tl_coX {post : Int32 → Prop} {l b s : Nat} (hl : l < 3) (hb : b < 4) (hs : s < 25) (hP : post (tl_cost P l b s)) : wpX_costOf post (P, V, O, OV, C, SV, F) (nI l) (nI b) (nI s) := by
  unfold wpX_costOf wpX_stepX wpX_stepY
  dsimp only
  refine tl_pfX hl (tl_sfX hl ⟨by decide, by decide, by decide, nm_r (tl_left hb) ⟨by decide, nm_r (tl_top hb) ?_⟩⟩)
  rw [tl_r5 hs, tl_d5 hs]
  exact tl_coX2 (tl_pf4 l) (tl_sf4 l) (by omega) (by omega) hP
theorem tl_coY1 {post : Int32 → Prop} {J : Int32 → Int32 → Prop} {p q left top i : Nat} {dx dy : Int32} (hp : p < 4) (hq : q < 4) (hl : left + 4 ≤ 8) (ht : top + 4 ≤ 8) (hi : i < 4)
    (hJ : J (tl_csN P p q dx dy left top (4 * (i + 1))) (nI (top + (i + 1)))) :
    ∃ n, wY_costOf_48 post J dx dy (nI left) (nI top) (nI p) (nI q) (nI (top + i)) P O K V OV SV F n (tl_csN P p q dx dy left top (4 * i)) (nI left) := by
  refine loop_0 (fun n j s => wY_costOf_48 post J dx dy (nI left) (nI top) (nI p) (nI q) (nI (top + i)) P O K V OV SV F n s (nI (left + j))) (fun j s => s = tl_csN P p q dx dy left top (4 * i + j)) 4 _ rfl ?_ ?_
  · intro n s hs
    subst hs
    exact pk_le (left + 4) (left + 4) (fun _ => nm_r (nI_1 (top + i)) hJ) (fun h => by omega) (hx := nI_add left 4)
  · intro n j s hj hs ih
    subst hs
    refine pk_le (left + 4) (left + j) (fun h => by omega) (fun _ => ?_) (hx := nI_add left 4)
    refine tl_atY hp ?_
    refine tl_atY hq (tl_szY ?_)
    have e : tl_at P p (nI (left + j)) (nI (top + i)) = P (64 * p + (8 * (top + i) + (left + j))) := by
      unfold tl_at
      rw [tl_cli (by omega), tl_cli (by omega)]
    rw [e]
    exact nm_r (tl_csS hj) (nm_r (nI_1 (left + j)) (ih _ rfl))
theorem tl_coY2 {post : Int32 → Prop} {p q left top : Nat} {dx dy : Int32} (hp : p < 4) (hq : q < 4) (hl : left + 4 ≤ 8) (ht : top + 4 ≤ 8)
    (hP : post (tl_csN P p q dx dy left top 16)) :
    ∃ n, wY_costOf_35 post dx dy (nI left) (nI top) (nI p) (nI q) P O K V OV SV F n 0 (nI top) := by
  refine loop_0 (fun n i s => wY_costOf_35 post dx dy (nI left) (nI top) (nI p) (nI q) P O K V OV SV F n s (nI (top + i))) (fun i s => s = tl_csN P p q dx dy left top (4 * i)) 4 _ rfl ?_ ?_
  · intro n s hs
    subst hs
    exact pk_le (top + 4) (top + 4) (fun _ => hP) (fun h => by omega) (hx := nI_add top 4)
  · intro n i s hi hs ih
    subst hs
    refine pk_le (top + 4) (top + i) (fun h => by omega) (fun _ => ?_) (hx := nI_add top 4)
    exact tl_coY1 hp hq hl ht hi (ih _ rfl)
theorem tl_coY {post : Int32 → Prop} {l b s : Nat} (hl : l < 3) (hb : b < 4) (hs : s < 25) (hP : post (tl_cost P l b s)) : wpY_cost post (P, O, K, V, OV, SV, F) (nI l) (nI b) (nI s) := by
  unfold wpY_cost wpY_costOf
  dsimp only
  refine tl_bL_g hl (br_t rfl (tl_bB_g hb (br_t rfl (tl_bT_g hs (br_t rfl ⟨by decide, by decide, by decide, nm_r (tl_left hb) ⟨by decide, nm_r (tl_top hb) ?_⟩⟩)))))
  refine tl_pfY hl (tl_sfY hl ?_)
  rw [tl_r5 hs, tl_d5 hs]
  exact tl_coY2 (tl_pf4 l) (tl_sf4 l) (by omega) (by omega) hP
end
theorem i_vc_cost {k : Nat} {u : SX} {v : SY} (I : i_Rel k u v) (hk : k + 5 ≤ 2560) (v1 : Int32) (v2 : Int32) (v3 : Int32) : wpX_cost (fun r => wpY_cost (fun r' => r' = r ∧ i_Rel (k + 5) u v) v v1 v2 v3) u v1 v2 v3 := by
  obtain ⟨P, V, O, OV, C, K, SV, F, rfl, rfl, hP, hO, hK, hE⟩ := I
  have R := tl_rel (V := V) (OV := OV) (F := F) (k + 5) hP hO hK hE
  unfold wpX_cost
  dsimp only
  rcases tl_ix 3 v1 (by decide) with b1 | ⟨l, hl, rfl⟩
  · refine tl_vR_l b1 (br_f (by decide) ?_)
    unfold wpY_cost
    exact tl_bL_b b1 (br_f (by decide) ⟨rfl, R⟩)
  rcases tl_ix 4 v2 (by decide) with b2 | ⟨b, hb, rfl⟩
  · refine tl_vR_b hl b2 (br_f (by decide) ?_)
    unfold wpY_cost
    exact tl_bL_g hl (br_t rfl (tl_bB_b b2 (br_f (by decide) ⟨rfl, R⟩)))
  rcases tl_ix 25 v3 (by decide) with b3 | ⟨s, hs, rfl⟩
  · refine tl_vR_s hl hb b3 (br_f (by decide) ?_)
    unfold wpY_cost
    exact tl_bL_g hl (br_t rfl (tl_bB_g hb (br_t rfl (tl_bT_b b3 (br_f (by decide) ⟨rfl, R⟩)))))
  refine tl_vR_g hl hb hs (br_t rfl ?_)
  refine tl_coX hl hb hs ?_
  exact tl_coY hl hb hs ⟨rfl, R⟩
end
section
/-! the best step: least by cost, length and the order of the visits; both sides find it -/
def tl_rk (t : Nat) : Nat := 5 * (t % 5) + t / 5
def tl_ln (t : Nat) : Nat := ((t / 5 - 2) + (2 - t / 5)) + ((t % 5 - 2) + (2 - t % 5))
def tl_key (c : Nat → Int32) (t : Nat) : Int := (c t).toInt * 1000 + ((tl_ln t * 100 + tl_rk t : Nat) : Int)
theorem tl_rkb {t : Nat} (h : t < 25) : tl_rk t < 25 := by unfold tl_rk; omega
theorem tl_lnb {t : Nat} (h : t < 25) : tl_ln t ≤ 4 := by unfold tl_ln; omega
theorem tl_rki {s t : Nat} (hs : s < 25) (ht : t < 25) (h : tl_rk s = tl_rk t) : s = t := by unfold tl_rk at h; omega
theorem tl_ln12 {s : Nat} (hs : s < 25) (h : tl_ln s = 0) : s = 12 := by unfold tl_ln at h; omega
theorem tl_keyi {c : Nat → Int32} {s t : Nat} (hs : s < 25) (ht : t < 25) (h : tl_key c s = tl_key c t) : s = t := by
  have a1 := tl_rkb hs
  have a2 := tl_rkb ht
  have a3 := tl_lnb hs
  have a4 := tl_lnb ht
  unfold tl_key at h
  exact tl_rki hs ht (by omega)
def tl_bsN (c : Nat → Int32) : Nat → Nat
  | 0 => 0
  | n + 1 => if tl_key c (n + 1) < tl_key c (tl_bsN c n) then n + 1 else tl_bsN c n
theorem tl_bsp {c : Nat → Int32} {n : Nat} (h : tl_key c (n + 1) < tl_key c (tl_bsN c n)) : tl_bsN c (n + 1) = n + 1 := if_pos h
theorem tl_bsn {c : Nat → Int32} {n : Nat} (h : ¬ tl_key c (n + 1) < tl_key c (tl_bsN c n)) : tl_bsN c (n + 1) = tl_bsN c n := if_neg h
theorem tl_bs_least (c : Nat → Int32) : ∀ n, tl_bsN c n ≤ n ∧ ∀ t, t ≤ n → tl_key c (tl_bsN c n) ≤ tl_key c t := by
  intro n
  induction n with
  | zero =>
    refine ⟨Nat.le_refl _, fun t ht => ?_⟩
    rw [show t = 0 from by omega]
    exact Int.le_refl _
  | succ n ih =>
    by_cases h : tl_key c (n + 1) < tl_key c (tl_bsN c n)
    · rw [tl_bsp h]
      refine ⟨Nat.le_refl _, fun t ht => ?_⟩
      by_cases e : t = n + 1
      · rw [e]
        exact Int.le_refl _
      · have := ih.2 t (by omega)
        omega
    · rw [tl_bsn h]
      refine ⟨by omega, fun t ht => ?_⟩
      by_cases e : t = n + 1
      · rw [e]
        omega
      · exact ih.2 t (by omega)
def tl_iv (c : Nat → Int32) (r b : Nat) : Prop := b < 25 ∧ (b = 12 ∨ tl_rk b < r) ∧ ∀ t, t < 25 → tl_rk t < r → tl_key c b ≤ tl_key c t
def tl_b2 (c : Nat → Int32) (s b : Nat) : Prop := (c s).toInt < (c b).toInt ∨ ((c s).toInt = (c b).toInt ∧ tl_ln s < tl_ln b)
theorem tl_iv0 (c : Nat → Int32) : tl_iv c 0 12 := ⟨by omega, Or.inl rfl, fun t _ h => by omega⟩
theorem tl_iv_y {c : Nat → Int32} {r s b : Nat} (hs : s < 25) (hr : tl_rk s = r) (h : tl_iv c r b) (h2 : tl_b2 c s b) : tl_iv c (r + 1) s := by
  obtain ⟨hb, _, hl⟩ := h
  refine ⟨hs, Or.inr (by omega), fun t ht htr => ?_⟩
  by_cases e : tl_rk t = r
  · rw [tl_rki hs ht (by omega)]
    exact Int.le_refl _
  · have h3 := hl t ht (by omega)
    have a1 := tl_rkb hs
    have a2 := tl_rkb hb
    have a3 := tl_lnb hs
    have a4 := tl_lnb hb
    refine Int.le_trans ?_ h3
    unfold tl_key
    unfold tl_b2 at h2
    omega
theorem tl_iv_n {c : Nat → Int32} {r s b : Nat} (hs : s < 25) (hr : tl_rk s = r) (h : tl_iv c r b) (h2 : ¬ tl_b2 c s b) : tl_iv c (r + 1) b := by
  obtain ⟨hb, hv, hl⟩ := h
  refine ⟨hb, by omega, fun t ht htr => ?_⟩
  by_cases e : tl_rk t = r
  · rw [← tl_rki hs ht (by omega)]
    have a1 := tl_rkb hs
    have a2 := tl_rkb hb
    have a3 := tl_lnb hs
    have a4 := tl_lnb hb
    by_cases e2 : (c s).toInt = (c b).toInt ∧ tl_ln s = tl_ln b
    · rcases hv with hv | hv
      · subst hv
        rw [tl_ln12 hs (e2.2.trans (by decide))]
        exact Int.le_refl _
      · unfold tl_key
        omega
    · unfold tl_key
      unfold tl_b2 at h2
      omega
  · exact hl t ht (by omega)
theorem tl_iv_end {c : Nat → Int32} {b : Nat} (h : tl_iv c 25 b) : b = tl_bsN c 24 := by
  obtain ⟨hb, _, hl⟩ := h
  have h1 := tl_bs_least c 24
  have h2 := hl (tl_bsN c 24) (by omega) (tl_rkb (by omega))
  have h3 := h1.2 b (by omega)
  exact tl_keyi (c := c) hb (by omega) (by omega)
/-! tables -/
theorem tl_if {c d A B : Prop} (e : c ↔ d) (f : d → A) (g : ¬ d → B) : (c → A) ∧ (¬ c → B) := ⟨fun h => f (e.mp h), fun h => g (fun hd => h (e.mpr hd))⟩
theorem tl_t1 : ∀ j, j < 5 → ∀ i, i < 5 → 5 * (nI j - 2 + 2) + (nI i - 2) + 2 = nI (5 * j + i) := by decide +kernel
theorem tl_t2 : ∀ j, j < 5 → ∀ i, i < 5 → tl_sz (nI j - 2) + tl_sz (nI i - 2) = nI (tl_ln (5 * j + i)) := by decide +kernel
theorem tl_t3 : ∀ j, j < 5 → ¬ (2 : Int32) < nI j - 2 := by decide +kernel
theorem tl_t4 : ∀ j, j < 5 → nI j - 2 + 1 = nI (j + 1) - 2 := by decide +kernel
theorem tl_t5 : ∀ j, j < 5 → ∀ i, i < 5 → (nI j - 2 = nI i - 2 ↔ j = i) := by decide +kernel
theorem tl_t6 : ∀ j, j < 5 → ∀ i, i < 5 → (nI j - 2 ≤ nI i - 2 ↔ j ≤ i) := by decide +kernel
theorem tl_lnE {s : Nat} (h : s < 25) : tl_sz (nI (s / 5) - 2) + tl_sz (nI (s % 5) - 2) = nI (tl_ln s) := by
  have e := tl_t2 (s / 5) (by omega) (s % 5) (by omega)
  rw [show 5 * (s / 5) + s % 5 = s from by omega] at e
  exact e
section
variable {P V O OV C K SV F : Nat → Int32}
theorem tl_better {post : Int32 → Prop} {s t : Nat} {c d : Int32} (hs : s < 25) (ht : t < 25)
    (h1 : c.toInt * 1000 + ((tl_ln s * 100 + tl_rk s : Nat) : Int) < d.toInt * 1000 + ((tl_ln t * 100 + tl_rk t : Nat) : Int) → post 1)
    (h0 : ¬ c.toInt * 1000 + ((tl_ln s * 100 + tl_rk s : Nat) : Int) < d.toInt * 1000 + ((tl_ln t * 100 + tl_rk t : Nat) : Int) → post 0) :
    wpY_better post (P, O, K, V, OV, SV, F) (nI s) c (nI t) d := by
  have a1 := tl_rkb hs
  have a2 := tl_rkb ht
  have a3 := tl_lnb hs
  have a4 := tl_lnb ht
  unfold wpY_better
  dsimp only
  by_cases e : c = d
  · subst e
    refine br_t rfl ?_
    rw [tl_r5 hs, tl_r5 ht, tl_d5 hs, tl_d5 ht]
    refine ⟨by decide, nm_e ⟨by decide, nm_e ⟨by decide, nm_e ⟨by decide, nm_e ?_⟩⟩⟩⟩
    refine tl_szY (tl_szY (nm_r (tl_lnE hs) (tl_szY (tl_szY (nm_r (tl_lnE ht) ?_)))))
    refine pk_eq (tl_ln s) (tl_ln t) (fun e1 => ?_) (fun e1 => ?_)
    · refine tl_if (tl_t5 (s % 5) (by omega) (t % 5) (by omega)) (fun e2 => ?_) (fun e2 => ?_)
      · refine tl_if (tl_t6 (t / 5) (by omega) (s / 5) (by omega)) (fun e3 => h0 ?_) (fun e3 => h1 ?_)
        · unfold tl_rk
          omega
        · unfold tl_rk
          omega
      · refine tl_if (tl_t6 (t % 5) (by omega) (s % 5) (by omega)) (fun e3 => h0 ?_) (fun e3 => h1 ?_)
        · unfold tl_rk
          omega
        · unfold tl_rk
          omega
    · exact pk_le (tl_ln t) (tl_ln s) (fun e2 => h0 (by omega)) (fun e2 => h1 (by omega))
  · have e' : ¬ c.toInt = d.toInt := fun h => e (Int32.toInt_inj.mp h)
    exact br_f e (tl_if Int32.le_iff_toInt_le (fun h => h0 (by omega)) (fun h => h1 (by omega)))
theorem tl_bestY {post : Int32 → Prop} {l b : Nat} (hl : l < 3) (hb : b < 4) (hP : post (nI (tl_bsN (tl_cost P l b) 24))) : wpY_bestStep post (P, O, K, V, OV, SV, F) (nI l) (nI b) := by
  refine loop_0 (fun n i s => wY_bestStep_5 post (nI l) (nI b) P O K V OV SV F n s (nI (i + 1))) (fun i s => s = nI (tl_bsN (tl_cost P l b) i)) 24 _ rfl ?_ ?_
  · intro n s hs
    subst hs
    exact br_t (tl_le 25) hP
  · intro n i s hi hs ih
    subst hs
    have hm := (tl_bs_least (tl_cost P l b) i).1
    refine br_f (nI_ge (b := 25) (by omega) (by decide)) ?_
    refine tl_coY hl hb (s := i + 1) (by omega) ?_
    refine tl_coY hl hb (s := tl_bsN (tl_cost P l b) i) (by omega) ?_
    refine tl_better (by omega) (by omega) (fun h => ?_) (fun h => ?_)
    · exact br_f (by decide) (nm_r (nI_1 (i + 1)) (ih _ (congrArg nI (tl_bsp h).symm)))
    · exact br_t rfl (nm_r (nI_1 (i + 1)) (ih _ (congrArg nI (tl_bsn h).symm)))
theorem tl_bestX1 {post : Int32 → Prop} {J : Int32 → Int32 → Int32 → Int32 → Prop} {l b i m : Nat} (hl : l < 3) (hb : b < 4) (hi : i < 5) (hm : tl_iv (tl_cost P l b) (5 * i) m)
    (hJ : ∀ m', tl_iv (tl_cost P l b) (5 * (i + 1)) m' → J (nI m') (tl_cost P l b m') (nI (tl_ln m')) (nI (i + 1) - 2)) :
    ∃ n, wX_bestStep_30 post J (nI l) (nI b) (nI i - 2) P V O OV C SV F n (nI m) (tl_cost P l b m) (nI (tl_ln m)) (nI 0 - 2) := by
  refine loop_0 (fun n j m => wX_bestStep_30 post J (nI l) (nI b) (nI i - 2) P V O OV C SV F n (nI m) (tl_cost P l b m) (nI (tl_ln m)) (nI j - 2)) (fun j m => tl_iv (tl_cost P l b) (5 * i + j) m) 5 m hm ?_ ?_
  · intro n m' h
    exact br_t (show (2 : Int32) < nI 5 - 2 by decide) (nm_r (tl_t4 i hi) (hJ m' h))
  · intro n j m' hj h ih
    have hm' := h.1
    have hs : 5 * j + i < 25 := by omega
    have hr : tl_rk (5 * j + i) = 5 * i + j := by unfold tl_rk; omega
    refine br_f (tl_t3 j hj) (nm_r (tl_t1 j hj i hi) ?_)
    refine tl_coX hl hb hs (tl_szX (tl_szX (nm_r (tl_t2 j hj i hi) ?_)))
    have hl1 := tl_lnb hm'
    have hl2 := tl_lnb hs
    refine tl_if Int32.lt_iff_toInt_lt (fun h1 => ?_) (fun h1 => ?_)
    · exact nm_r (tl_t4 j hj) (ih _ (tl_iv_y hs hr h (Or.inl h1)))
    · refine tl_if Int32.toInt_inj.symm (fun h2 => ?_) (fun h2 => ?_)
      · refine pk_le (tl_ln m') (tl_ln (5 * j + i)) (fun h3 => ?_) (fun h3 => ?_)
        · exact nm_r (tl_t4 j hj) (ih _ (tl_iv_n hs hr h (fun hb2 => by unfold tl_b2 at hb2; omega)))
        · exact nm_r (tl_t4 j hj) (ih _ (tl_iv_y hs hr h (Or.inr ⟨h2, h3⟩)))
      · exact nm_r (tl_t4 j hj) (ih _ (tl_iv_n hs hr h (fun hb2 => by unfold tl_b2 at hb2; omega)))
theorem tl_bestX {post : Int32 → Prop} {l b : Nat} (hl : l < 3) (hb : b < 4) (hP : post (nI (tl_bsN (tl_cost P l b) 24))) : wpX_bestStep post (P, V, O, OV, C, SV, F) (nI l) (nI b) := by
  have e2 : (-2 : Int32) = nI 0 - 2 := by decide
  unfold wpX_bestStep
  dsimp only
  refine tl_coX hl hb (s := 12) (by omega) ?_
  rw [e2]
  refine loop_0 (fun n i m => wX_bestStep_20 post (nI l) (nI b) P V O OV C SV F n (nI m) (tl_cost P l b m) (nI (tl_ln m)) (nI i - 2)) (fun i m => tl_iv (tl_cost P l b) (5 * i) m) 5 12 (tl_iv0 _) ?_ ?_
  · intro n m h
    rw [← tl_iv_end h] at hP
    exact br_t (show (2 : Int32) < nI 5 - 2 by decide) hP
  · intro n i m hi h ih
    refine br_f (tl_t3 i hi) ?_
    rw [e2]
    exact tl_bestX1 hl hb hi h ih
end
end
section
/-! search -/
def tl_bs (P : Nat → Int32) (i : Nat) : Nat := tl_bsN (tl_cost P (i / 4) (i % 4)) 24
def tl_bsI (P : Nat → Int32) : Nat → Int32 := fun i => nI (tl_bs P i)
def tl_bsC (P : Nat → Int32) : Nat → Int32 := fun i => tl_cost P (i / 4) (i % 4) (tl_bs P i)
theorem tl_bsE (P : Nat → Int32) {l i : Nat} (hi : i < 4) : tl_bs P (4 * l + i) = tl_bsN (tl_cost P l i) 24 := by
  unfold tl_bs
  rw [show (4 * l + i) / 4 = l from by omega, show (4 * l + i) % 4 = i from by omega]
theorem tl_bsD (P : Nat → Int32) {l i : Nat} (hi : i < 4) : tl_bsC P (4 * l + i) = tl_cost P l i (tl_bsN (tl_cost P l i) 24) := by
  unfold tl_bsC
  rw [tl_bsE P hi, show (4 * l + i) / 4 = l from by omega, show (4 * l + i) % 4 = i from by omega]
def tl_sq (P V : Nat → Int32) (n : Nat) : Int32 × (Nat → Int32) := (tl_sum (tl_bsC P) n, tl_fill V 0 n (tl_bsI P))
section
variable {P V O OV C K SV F : Nat → Int32}
theorem tl_seX1 {post : Int32 → SX → Prop} {J : Int32 → Int32 → (Nat → Int32) → (Nat → Int32) → (Nat → Int32) → (Nat → Int32) → (Nat → Int32) → (Nat → Int32) → (Nat → Int32) → Prop} {l : Nat} (hl : l < 3)
    (hJ : J (tl_sq P V (4 * (l + 1))).1 (nI (l + 1)) P (tl_sq P V (4 * (l + 1))).2 O OV C SV F) :
    ∃ n, wX_search_11 post J (nI l) n (tl_sq P V (4 * l)).1 0 P (tl_sq P V (4 * l)).2 O OV C SV F := by
  refine loop_0 (fun n i (q : Int32 × (Nat → Int32)) => wX_search_11 post J (nI l) n q.1 (nI i) P q.2 O OV C SV F) (fun i q => q = tl_sq P V (4 * l + i)) 4 (tl_sq P V (4 * l)) rfl ?_ ?_
  · intro n q hq
    subst hq
    exact br_t (tl_le 4) (nm_r (nI_1 l) hJ)
  · intro n i q hi hq ih
    subst hq
    have hm := (tl_bs_least (tl_cost P l i) 24).1
    refine br_f (nI_ge (b := 4) hi (by decide)) ?_
    refine tl_bestX hl hi ?_
    refine tl_st (4 * l + i) (tl_X4 l i) (by omega) (by decide) (tl_fill V 0 (4 * l + (i + 1)) (tl_bsI P)) (tl_fillZ (g := tl_bsI P) (congrArg nI (tl_bsE P hi).symm)) ?_
    refine tl_coX hl hi (by omega) ?_
    refine nm_r (e' := tl_sum (tl_bsC P) (4 * l + (i + 1))) ?_ (nm_r (nI_1 i) (ih (tl_sq P V (4 * l + (i + 1))) rfl))
    rw [← tl_bsD P hi]
    rfl
theorem tl_seX {post : Int32 → SX → Prop} (hp : post (tl_sum (tl_bsC P) 12) (P, tl_fill V 0 12 (tl_bsI P), O, OV, C, SV, F)) :
    ∃ n, wX_search_4 post n 0 0 P V O OV C SV F := by
  refine loop_0 (fun n i (q : Int32 × (Nat → Int32)) => wX_search_4 post n q.1 (nI i) P q.2 O OV C SV F) (fun i q => q = tl_sq P V (4 * i)) 3 (0, V) ?_ ?_ ?_
  · show _ = tl_sq P V 0
    unfold tl_sq
    rw [tl_fill0]
    rfl
  · intro n q hq
    subst hq
    exact br_t (tl_le 3) hp
  · intro n i q hi hq ih
    subst hq
    exact br_f (nI_ge (b := 3) hi (by decide)) (tl_seX1 hi (ih _ rfl))
theorem tl_seY1 {post : Int32 → SY → Prop} {J : Int32 → Int32 → (Nat → Int32) → (Nat → Int32) → (Nat → Int32) → (Nat → Int32) → (Nat → Int32) → (Nat → Int32) → (Nat → Int32) → Prop} {l : Nat} (hl : l < 3)
    (hJ : J (tl_sq P V (4 * (l + 1))).1 (nI (l + 1)) P O K (tl_sq P V (4 * (l + 1))).2 OV SV F) :
    ∃ n, wY_search_11 post J (nI l) n (tl_sq P V (4 * l)).1 0 P O K (tl_sq P V (4 * l)).2 OV SV F := by
  refine loop_0 (fun n i (q : Int32 × (Nat → Int32)) => wY_search_11 post J (nI l) n q.1 (nI i) P O K q.2 OV SV F) (fun i q => q = tl_sq P V (4 * l + i)) 4 (tl_sq P V (4 * l)) rfl ?_ ?_
  · intro n q hq
    subst hq
    exact br_t (tl_le 4) (nm_r (nI_1 l) hJ)
  · intro n i q hi hq ih
    subst hq
    have hm := (tl_bs_least (tl_cost P l i) 24).1
    refine br_f (nI_ge (b := 4) hi (by decide)) ?_
    refine tl_bestY hl hi ?_
    refine tl_st (4 * l + i) (tl_Y4 l i) (by omega) (by decide) (tl_fill V 0 (4 * l + (i + 1)) (tl_bsI P)) (tl_fillZ (g := tl_bsI P) (congrArg nI (tl_bsE P hi).symm)) ?_
    refine tl_coY hl hi (by omega) ?_
    refine nm_r (e' := tl_sum (tl_bsC P) (4 * l + (i + 1))) ?_ (nm_r (nI_1 i) (ih (tl_sq P V (4 * l + (i + 1))) rfl))
    rw [← tl_bsD P hi]
    rfl
theorem tl_seY {post : Int32 → SY → Prop} (hp : post (tl_sum (tl_bsC P) 12) (P, O, K, tl_fill V 0 12 (tl_bsI P), OV, SV, F)) :
    ∃ n, wY_search_4 post n 0 0 P O K V OV SV F := by
  refine loop_0 (fun n i (q : Int32 × (Nat → Int32)) => wY_search_4 post n q.1 (nI i) P O K q.2 OV SV F) (fun i q => q = tl_sq P V (4 * i)) 3 (0, V) ?_ ?_ ?_
  · show _ = tl_sq P V 0
    unfold tl_sq
    rw [tl_fill0]
    rfl
  · intro n q hq
    subst hq
    exact br_t (tl_le 3) hp
  · intro n i q hi hq ih
    subst hq
    exact br_f (nI_ge (b := 3) hi (by decide)) (tl_seY1 hi (ih _ rfl))
end
theorem i_vc_search {k : Nat} {u : SX} {v : SY} (I : i_Rel k u v) (hk : k + 5 ≤ 2560) : wpX_search (fun r u' => wpY_search (fun r' v' => r' = r ∧ i_Rel (k + 5) u' v') v) u := by
  obtain ⟨P, V, O, OV, C, K, SV, F, rfl, rfl, hP, hO, hK, hE⟩ := I
  unfold wpX_search wpY_search
  dsimp only
  refine tl_seX ?_
  refine tl_seY ?_
  exact ⟨rfl, tl_rel _ hP hO hK hE⟩
end
