/-! the start, difference, adopt -/
theorem tl_fillZ {P : Nat → Int32} {n : Nat} {g : Nat → Int32} {v : Int32} (hv : v = g n) : upd (tl_fill P 0 n g) n v = tl_fill P 0 (n + 1) g := by
  have h := tl_fillS (P := P) (lo := 0) (n := n) hv
  rw [Nat.zero_add] at h
  exact h
theorem tl_le (n : Nat) : nI n ≤ nI n := Int32.le_refl _
def tl_sum (h : Nat → Int32) : Nat → Int32
  | 0 => 0
  | n + 1 => tl_sum h n + h n
theorem tl_sum_c {h h' : Nat → Int32} : ∀ n, (∀ i, i < n → h i = h' i) → tl_sum h n = tl_sum h' n := by
  intro n
  induction n with
  | zero => intro _; rfl
  | succ n ih =>
    intro e
    show tl_sum h n + h n = tl_sum h' n + h' n
    rw [ih (fun i hi => e i (by omega)), e n (by omega)]
theorem tl_enc0 : tl_enc (fun _ => 0) (fun _ => 0) (fun _ => 0) := by
  intro s f y x _ _ _ _
  have e : tl_pr (fun _ => 0) (fun _ => 0) f x y = 0 := by
    unfold tl_pr
    by_cases h1 : f = 1
    · rw [if_pos h1]
      show ((0 : Int32) + 0) / 2 = 0
      decide
    · rw [if_neg h1]
      by_cases h3 : f = 3
      · rw [if_pos h3]
        rfl
      · rw [if_neg h3]
  show (0 : Int32) = (0 - tl_pr (fun _ => 0) (fun _ => 0) f x y) &&& 255
  rw [e]
  decide
theorem tl_pix0 (n : Nat) : tl_pix (fun _ => 0) n := fun _ _ => by
  show (0 : Int32) &&& 255 = 0
  decide
theorem tl_initX {post : SX → Prop} {P V O OV C SV F : Nat → Int32} (hp : post (P, tl_fill V 0 12 (fun _ => 12), O, tl_fill OV 0 12 (fun _ => 12), C, SV, F)) :
    ∃ n, wX_init_64 post n 0 P V O OV C SV F := by
  refine loop_0 (fun n i (s : (Nat → Int32) × (Nat → Int32)) => wX_init_64 post n (nI i) P s.1 O s.2 C SV F) (fun i s => s = (tl_fill V 0 i (fun _ => 12), tl_fill OV 0 i (fun _ => 12))) 12 (V, OV) ?_ ?_ ?_
  · rw [tl_fill0, tl_fill0]
  · intro n s hs
    subst hs
    exact br_t (tl_le 12) hp
  · intro n i s hi hs ih
    subst hs
    exact br_f (nI_ge (b := 12) hi (by decide)) (tl_st i rfl (by omega) (by decide) (tl_fill V 0 (i + 1) (fun _ => 12)) (tl_fillZ (P := V) (g := fun _ => 12) rfl) (tl_st i rfl (by omega) (by decide) (tl_fill OV 0 (i + 1) (fun _ => 12)) (tl_fillZ (P := OV) (g := fun _ => 12) rfl) (nm_r (nI_1 i) (ih (_, _) rfl))))
theorem tl_initY {post : SY → Prop} {P V O OV K SV F : Nat → Int32} (hp : post (P, O, K, tl_fill V 0 12 (fun _ => 12), tl_fill OV 0 12 (fun _ => 12), SV, F)) :
    ∃ n, wY_init_64 post n 0 P O K V OV SV F := by
  refine loop_0 (fun n i (s : (Nat → Int32) × (Nat → Int32)) => wY_init_64 post n (nI i) P O K s.1 s.2 SV F) (fun i s => s = (tl_fill V 0 i (fun _ => 12), tl_fill OV 0 i (fun _ => 12))) 12 (V, OV) ?_ ?_ ?_
  · rw [tl_fill0, tl_fill0]
  · intro n s hs
    subst hs
    exact br_t (tl_le 12) hp
  · intro n i s hi hs ih
    subst hs
    exact br_f (nI_ge (b := 12) hi (by decide)) (tl_st i rfl (by omega) (by decide) (tl_fill V 0 (i + 1) (fun _ => 12)) (tl_fillZ (P := V) (g := fun _ => 12) rfl) (tl_st i rfl (by omega) (by decide) (tl_fill OV 0 (i + 1) (fun _ => 12)) (tl_fillZ (P := OV) (g := fun _ => 12) rfl) (nm_r (nI_1 i) (ih (_, _) rfl))))
theorem i_vc0 : wpX_init (fun u => wpY_init (fun v => i_Rel 0 u v)) := by
  unfold wpX_init wpY_init
  exact tl_initX (tl_initY (tl_rel 0 (tl_pix0 _) (tl_pix0 _) (tl_pix0 _) tl_enc0))
/-! adopt -/
section
variable {P V O OV C K SV F : Nat → Int32}
theorem tl_adX2 {post : SX → Prop} (hp : post (P, tl_fill V 0 12 OV, O, OV, C, SV, F)) : ∃ n, wX_adopt_29 post n 0 P V O OV C SV F := by
  refine loop_0 (fun n i Q => wX_adopt_29 post n (nI i) P Q O OV C SV F) (fun i Q => Q = tl_fill V 0 i OV) 12 _ (tl_fill0 _ _ _).symm ?_ ?_
  · intro n Q hQ
    subst hQ
    exact br_t (tl_le 12) hp
  · intro n i Q hi hQ ih
    subst hQ
    exact br_f (nI_ge (b := 12) hi (by decide)) ⟨vp_in_nI hi (by decide), tl_st i rfl hi (by decide) _ (tl_fillZ (by rw [nI_clamp (by omega)])) (nm_r (nI_1 i) (ih _ rfl))⟩
theorem tl_adX {post : SX → Prop} (hp : post (tl_fill P 0 256 O, tl_fill V 0 12 OV, O, OV, C, SV, F)) : ∃ n, wX_adopt_2 post n 0 P V O OV C SV F := by
  refine loop_0 (fun n i Q => wX_adopt_2 post n (nI i) Q V O OV C SV F) (fun i Q => Q = tl_fill P 0 i O) 256 _ (tl_fill0 _ _ _).symm ?_ ?_
  · intro n Q hQ
    subst hQ
    exact br_t (tl_le 256) (tl_adX2 hp)
  · intro n i Q hi hQ ih
    subst hQ
    exact br_f (nI_ge (b := 256) hi (by decide)) ⟨vp_in_nI hi (by decide), tl_st i rfl hi (by decide) _ (tl_fillZ (by rw [nI_clamp (by omega)])) (nm_r (nI_1 i) (ih _ rfl))⟩
theorem tl_adY2 {post : SY → Prop} (hp : post (P, O, K, tl_fill V 0 12 OV, OV, SV, F)) : ∃ n, wY_adopt_29 post n 0 P O K V OV SV F := by
  refine loop_0 (fun n i Q => wY_adopt_29 post n (nI i) P O K Q OV SV F) (fun i Q => Q = tl_fill V 0 i OV) 12 _ (tl_fill0 _ _ _).symm ?_ ?_
  · intro n Q hQ
    subst hQ
    exact br_t (tl_le 12) hp
  · intro n i Q hi hQ ih
    subst hQ
    exact br_f (nI_ge (b := 12) hi (by decide)) ⟨vp_in_nI hi (by decide), tl_st i rfl hi (by decide) _ (tl_fillZ (by rw [nI_clamp (by omega)])) (nm_r (nI_1 i) (ih _ rfl))⟩
theorem tl_adY {post : SY → Prop} (hp : post (tl_fill P 0 256 O, O, K, tl_fill V 0 12 OV, OV, SV, F)) : ∃ n, wY_adopt_2 post n 0 P O K V OV SV F := by
  refine loop_0 (fun n i Q => wY_adopt_2 post n (nI i) Q O K V OV SV F) (fun i Q => Q = tl_fill P 0 i O) 256 _ (tl_fill0 _ _ _).symm ?_ ?_
  · intro n Q hQ
    subst hQ
    exact br_t (tl_le 256) (tl_adY2 hp)
  · intro n i Q hi hQ ih
    subst hQ
    exact br_f (nI_ge (b := 256) hi (by decide)) ⟨vp_in_nI hi (by decide), tl_st i rfl hi (by decide) _ (tl_fillZ (by rw [nI_clamp (by omega)])) (nm_r (nI_1 i) (ih _ rfl))⟩
end
theorem i_vc_adopt {k : Nat} {u : SX} {v : SY} (I : i_Rel k u v) (hk : k + 5 ≤ 2560) : wpX_adopt (fun u' => wpY_adopt (fun v' => i_Rel (k + 5) u' v') v) u := by
  obtain ⟨P, V, O, OV, C, K, SV, F, rfl, rfl, hP, hO, hK, hE⟩ := I
  unfold wpX_adopt wpY_adopt
  dsimp only
  exact tl_adX (tl_adY (tl_rel _ (tl_pixfill hP (fun i hi => hO i hi)) hO hK hE))
/-! difference -/
def tl_gdi (P O : Nat → Int32) (f : Nat) : Nat → Int32 := fun i => tl_sz (O (64 * f + i) - P (64 * f + i))
section
variable {P V O OV C K SV F : Nat → Int32}
theorem tl_diX {post : Int32 → Prop} {f : Nat} (hf : f < 4) (hp : post (tl_sum (tl_gdi P O f) 64)) : ∃ n, wX_difference_13 post (nI f) P V O OV C SV F n 0 0 := by
  refine loop_0 (fun n i s => wX_difference_13 post (nI f) P V O OV C SV F n s (nI i)) (fun i s => s = tl_sum (tl_gdi P O f) i) 64 _ rfl ?_ ?_
  · intro n s hs
    subst hs
    exact br_t (tl_le 64) hp
  · intro n i s hi hs ih
    subst hs
    refine br_f (nI_ge (b := 64) hi (by decide)) (nm_r (tl_X64 f i) ?_)
    have hn : vp_in (nI (64 * f + i)) 256 := vp_in_nI (by omega) (by decide)
    refine ⟨hn, hn, tl_szX ?_⟩
    rw [nI_clamp (by omega)]
    exact nm_e (nm_r (nI_1 i) (ih _ rfl))
theorem tl_diY {post : Int32 → Prop} {f : Nat} (hf : f < 4) (hp : post (tl_sum (tl_gdi P O f) 64)) : ∃ n, wY_difference_14 post (nI f) P O K V OV SV F n 0 0 := by
  refine loop_0 (fun n i s => wY_difference_14 post (nI f) P O K V OV SV F n s (nI i)) (fun i s => s = tl_sum (tl_gdi P O f) i) 64 _ rfl ?_ ?_
  · intro n s hs
    subst hs
    exact br_t (tl_le 64) hp
  · intro n i s hi hs ih
    subst hs
    refine br_f (nI_ge (b := 64) hi (by decide)) ?_
    have hn : vp_in (nI (64 * f + i)) 256 := vp_in_nI (by omega) (by decide)
    rw [tl_Y64, nI_clamp (by omega)]
    refine ⟨hn, hn, tl_szY ?_⟩
    exact nm_e (nm_r (nI_1 i) (ih _ rfl))
end
theorem i_vc_difference {k : Nat} {u : SX} {v : SY} (I : i_Rel k u v) (hk : k + 5 ≤ 2560) (v1 : Int32) : wpX_difference (fun r => wpY_difference (fun r' => r' = r ∧ i_Rel (k + 5) u v) v v1) u v1 := by
  obtain ⟨P, V, O, OV, C, K, SV, F, rfl, rfl, hP, hO, hK, hE⟩ := I
  have R := tl_rel (V := V) (OV := OV) (F := F) (k + 5) hP hO hK hE
  unfold wpX_difference wpY_difference
  dsimp only
  rcases tl_ix 4 v1 (by decide) with b1 | ⟨f, hf, rfl⟩
  · exact tl_isF_b b1 (br_t rfl (tl_bF_b b1 (br_f (by decide) ⟨rfl, R⟩)))
  refine tl_isF_g hf (br_f (by decide) ?_)
  refine tl_diX hf ?_
  refine tl_bF_g hf (br_t rfl ?_)
  exact tl_diY hf ⟨rfl, R⟩
