/-! search -/
def tl_bs (P : Nat → Int32) (i : Nat) : Nat := tl_bsN (tl_cost P (i / 4) (i % 4)) 24
def tl_bsI (P : Nat → Int32) : Nat → Int32 := fun i => nI (tl_bs P i)
def tl_bsC (P : Nat → Int32) : Nat → Int32 := fun i => tl_cost P (i / 4) (i % 4) (tl_bs P i)
theorem tl_bsE (P : Nat → Int32) {l i : Nat} (hi : i < 4) : tl_bs P (4 * l + i) = tl_bsN (tl_cost P l i) 24 := by
  unfold tl_bs
  rw [show (4 * l + i) / 4 = l from by omega, show (4 * l + i) % 4 = i from by omega]
theorem tl_bsD (P : Nat → Int32) {l i : Nat} (hi : i < 4) : tl_bsC P (4 * l + i) = tl_cost P l i (tl_bsN (tl_cost P l i) 24) := by
  unfold tl_bsC
  rw [tl_bsE P hi, show (4 * l + i) / 4 = l from by omega, show (4 * l + i) % 4 = i from by omega]
def tl_sq (P V : Nat → Int32) (n : Nat) : Int32 × (Nat → Int32) := (tl_sum (tl_bsC P) n, tl_fill V 0 n (tl_bsI P))
section
variable {P V O OV C K SV F : Nat → Int32}
theorem tl_seX1 {post : Int32 → SX → Prop} {J : Int32 → Int32 → (Nat → Int32) → (Nat → Int32) → (Nat → Int32) → (Nat → Int32) → (Nat → Int32) → (Nat → Int32) → (Nat → Int32) → Prop} {l : Nat} (hl : l < 3)
    (hJ : J (tl_sq P V (4 * (l + 1))).1 (nI (l + 1)) P (tl_sq P V (4 * (l + 1))).2 O OV C SV F) :
    ∃ n, wX_search_11 post J (nI l) n (tl_sq P V (4 * l)).1 0 P (tl_sq P V (4 * l)).2 O OV C SV F := by
  refine loop_0 (fun n i (q : Int32 × (Nat → Int32)) => wX_search_11 post J (nI l) n q.1 (nI i) P q.2 O OV C SV F) (fun i q => q = tl_sq P V (4 * l + i)) 4 (tl_sq P V (4 * l)) rfl ?_ ?_
  · intro n q hq
    subst hq
    exact br_t (tl_le 4) (nm_r (nI_1 l) hJ)
  · intro n i q hi hq ih
    subst hq
    have hm := (tl_bs_least (tl_cost P l i) 24).1
    refine br_f (nI_ge (b := 4) hi (by decide)) ?_
    refine tl_bestX hl hi ?_
    refine tl_st (4 * l + i) (tl_X4 l i) (by omega) (by decide) (tl_fill V 0 (4 * l + (i + 1)) (tl_bsI P)) (tl_fillZ (g := tl_bsI P) (congrArg nI (tl_bsE P hi).symm)) ?_
    refine tl_coX hl hi (by omega) ?_
    refine nm_r (e' := tl_sum (tl_bsC P) (4 * l + (i + 1))) ?_ (nm_r (nI_1 i) (ih (tl_sq P V (4 * l + (i + 1))) rfl))
    rw [← tl_bsD P hi]
    rfl
theorem tl_seX {post : Int32 → SX → Prop} (hp : post (tl_sum (tl_bsC P) 12) (P, tl_fill V 0 12 (tl_bsI P), O, OV, C, SV, F)) :
    ∃ n, wX_search_4 post n 0 0 P V O OV C SV F := by
  refine loop_0 (fun n i (q : Int32 × (Nat → Int32)) => wX_search_4 post n q.1 (nI i) P q.2 O OV C SV F) (fun i q => q = tl_sq P V (4 * i)) 3 (0, V) ?_ ?_ ?_
  · show _ = tl_sq P V 0
    unfold tl_sq
    rw [tl_fill0]
    rfl
  · intro n q hq
    subst hq
    exact br_t (tl_le 3) hp
  · intro n i q hi hq ih
    subst hq
    exact br_f (nI_ge (b := 3) hi (by decide)) (tl_seX1 hi (ih _ rfl))
theorem tl_seY1 {post : Int32 → SY → Prop} {J : Int32 → Int32 → (Nat → Int32) → (Nat → Int32) → (Nat → Int32) → (Nat → Int32) → (Nat → Int32) → (Nat → Int32) → (Nat → Int32) → Prop} {l : Nat} (hl : l < 3)
    (hJ : J (tl_sq P V (4 * (l + 1))).1 (nI (l + 1)) P O K (tl_sq P V (4 * (l + 1))).2 OV SV F) :
    ∃ n, wY_search_11 post J (nI l) n (tl_sq P V (4 * l)).1 0 P O K (tl_sq P V (4 * l)).2 OV SV F := by
  refine loop_0 (fun n i (q : Int32 × (Nat → Int32)) => wY_search_11 post J (nI l) n q.1 (nI i) P O K q.2 OV SV F) (fun i q => q = tl_sq P V (4 * l + i)) 4 (tl_sq P V (4 * l)) rfl ?_ ?_
  · intro n q hq
    subst hq
    exact br_t (tl_le 4) (nm_r (nI_1 l) hJ)
  · intro n i q hi hq ih
    subst hq
    have hm := (tl_bs_least (tl_cost P l i) 24).1
    refine br_f (nI_ge (b := 4) hi (by decide)) ?_
    refine tl_bestY hl hi ?_
    refine tl_st (4 * l + i) (tl_Y4 l i) (by omega) (by decide) (tl_fill V 0 (4 * l + (i + 1)) (tl_bsI P)) (tl_fillZ (g := tl_bsI P) (congrArg nI (tl_bsE P hi).symm)) ?_
    refine tl_coY hl hi (by omega) ?_
    refine nm_r (e' := tl_sum (tl_bsC P) (4 * l + (i + 1))) ?_ (nm_r (nI_1 i) (ih (tl_sq P V (4 * l + (i + 1))) rfl))
    rw [← tl_bsD P hi]
    rfl
theorem tl_seY {post : Int32 → SY → Prop} (hp : post (tl_sum (tl_bsC P) 12) (P, O, K, tl_fill V 0 12 (tl_bsI P), OV, SV, F)) :
    ∃ n, wY_search_4 post n 0 0 P O K V OV SV F := by
  refine loop_0 (fun n i (q : Int32 × (Nat → Int32)) => wY_search_4 post n q.1 (nI i) P O K q.2 OV SV F) (fun i q => q = tl_sq P V (4 * i)) 3 (0, V) ?_ ?_ ?_
  · show _ = tl_sq P V 0
    unfold tl_sq
    rw [tl_fill0]
    rfl
  · intro n q hq
    subst hq
    exact br_t (tl_le 3) hp
  · intro n i q hi hq ih
    subst hq
    exact br_f (nI_ge (b := 3) hi (by decide)) (tl_seY1 hi (ih _ rfl))
end
theorem i_vc_search {k : Nat} {u : SX} {v : SY} (I : i_Rel k u v) (hk : k + 5 ≤ 2560) : wpX_search (fun r u' => wpY_search (fun r' v' => r' = r ∧ i_Rel (k + 5) u' v') v) u := by
  obtain ⟨P, V, O, OV, C, K, SV, F, rfl, rfl, hP, hO, hK, hE⟩ := I
  unfold wpX_search wpY_search
  dsimp only
  refine tl_seX ?_
  refine tl_seY ?_
  exact ⟨rfl, tl_rel _ hP hO hK hE⟩
