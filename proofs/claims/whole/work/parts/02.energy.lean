section
variable (zc oc th fr to uc dc cs : Nat → Int32)
theorem cx_te (post : Int32 → Prop) (l : Int32) {t : Nat} (ht : t < 16) (h : post (cl_V (cl_lab l (fr t)) (cl_lab l (to t)) (uc t) (dc t))) : wpX_tieEnergy post (zc, oc, th, fr, to, uc, dc) (nI t) l := by
  have hv : vp_in (nI t) 16 := vp_in_nI ht (by decide)
  have hc : (nI t).toNatClampNeg = t := nI_clamp (by omega)
  unfold wpX_tieEnergy wpX_labelAt
  dsimp only
  rw [hc]
  refine ⟨hv, hv, ?_⟩
  unfold cl_V at h
  by_cases h1 : cl_lab l (fr t) = cl_lab l (to t)
  · rw [if_pos h1] at h
    exact br_t h1 h
  · rw [if_neg h1] at h
    refine br_f h1 ?_
    by_cases h2 : cl_lab l (fr t) = 0
    · rw [if_pos h2] at h
      exact br_t h2 ⟨hv, h⟩
    · rw [if_neg h2] at h
      exact br_f h2 ⟨hv, h⟩
theorem cx_e44 (post : Int32 → Prop) (l s0 : Int32) (h : post (cl_A s0 (cl_T th fr to uc dc l) 16)) : ∃ n, wX_energyOf_44 post l zc oc th fr to uc dc n s0 0 := by
  refine loop_0 (fun n i s => wX_energyOf_44 post l zc oc th fr to uc dc n s (nI i)) (fun i s => s = cl_A s0 (cl_T th fr to uc dc l) i) 16 s0 rfl ?_ ?_
  · intro n s e
    exact br_t cl_x16 (e ▸ h)
  · intro n i s hi e k
    have hc : (nI i).toNatClampNeg = i := nI_clamp (by omega)
    have hv : vp_in (nI i) 16 := vp_in_nI hi (by decide)
    refine br_f (cl_i16 hi) ⟨hv, ?_⟩
    rw [hc]
    by_cases ht : th i = 0
    · refine br_t ht (nm_r (nI_1 i) (k s ?_))
      show s = cl_A s0 (cl_T th fr to uc dc l) i + cl_T th fr to uc dc l i
      rw [e, show cl_T th fr to uc dc l i = 0 from if_pos ht, Int32.add_zero]
    · refine br_f ht (cx_te zc oc th fr to uc dc _ l hi (nm_e (nm_r (nI_1 i) (k _ ?_))))
      show s + _ = cl_A s0 (cl_T th fr to uc dc l) i + cl_T th fr to uc dc l i
      rw [e, show cl_T th fr to uc dc l i = _ from if_neg ht]
theorem cx_e (post : Int32 → Prop) (l : Int32) (h : post (cl_E zc oc th fr to uc dc l)) : wpX_energyOf post (zc, oc, th, fr, to, uc, dc) l := by
  refine loop_0 (fun n i s => wX_energyOf_4 post l zc oc th fr to uc dc n s (nI i)) (fun i s => s = cl_A 0 (cl_P zc oc l) i) 9 0 rfl ?_ ?_
  · intro n s e
    refine br_t cl_x9 (cx_e44 zc oc th fr to uc dc post l s ?_)
    rw [e]
    exact h
  · intro n i s hi e k
    have hc : (nI i).toNatClampNeg = i := nI_clamp (by omega)
    have hv : vp_in (nI i) 9 := vp_in_nI hi (by decide)
    refine br_f (cl_i9 hi) ?_
    by_cases hz : cl_lab l (nI i) = 0
    · refine br_t hz ⟨hv, nm_e (nm_r (nI_1 i) (k _ ?_))⟩
      show s + zc (nI i).toNatClampNeg = cl_A 0 (cl_P zc oc l) i + cl_P zc oc l i
      rw [e, hc, show cl_P zc oc l i = zc i from if_pos hz]
    · refine br_f hz ⟨hv, nm_e (nm_r (nI_1 i) (k _ ?_))⟩
      show s + oc (nI i).toNatClampNeg = cl_A 0 (cl_P zc oc l) i + cl_P zc oc l i
      rw [e, hc, show cl_P zc oc l i = oc i from if_neg hz]
theorem cy_90 (post : Int32 → Prop) (J : Int32 → Int32 → Prop) (l s a b : Int32) {i : Nat} (hi : i < 16) (ht : ¬ th i = 0) (h1 : a ≤ b → J s (nI (i + 1))) (h2 : ¬ a ≤ b → J (s + dc i) (nI (i + 1))) : wY_energy_90 post J l s (nI i) a b cs th fr to uc dc := by
  have hc : (nI i).toNatClampNeg = i := nI_clamp (by omega)
  have hv : vp_in (nI i) 16 := vp_in_nI hi (by decide)
  unfold wY_energy_90
  rw [hc, nI_1 i]
  exact ⟨hv, br_f ht (br_c (fun g => nm_e (h1 g)) (fun g => ⟨hv, nm_e (nm_e (h2 g))⟩))⟩
theorem cy_tie (post : Int32 → Prop) (J : Int32 → Int32 → Prop) (l s a b : Int32) {i : Nat} (hi : i < 16) (ha : a = nI 0 ∨ a = nI 1) (hb : b = nI 0 ∨ b = nI 1)
    (h : J (s + (if th i = 0 then 0 else cl_V a b (uc i) (dc i))) (nI (i + 1))) :
    ((th (nI i).toNatClampNeg = 0 → wY_energy_90 post J l s (nI i) a b cs th fr to uc dc) ∧ (¬ th (nI i).toNatClampNeg = 0 → ((b ≤ a → wY_energy_90 post J l s (nI i) a b cs th fr to uc dc) ∧ (¬ b ≤ a → (vp_in (nI i) 16 ∧ (∀ y : Int32, y = s + uc (nI i).toNatClampNeg → wY_energy_90 post J l y (nI i) a b cs th fr to uc dc)))))) := by
  have hc : (nI i).toNatClampNeg = i := nI_clamp (by omega)
  have hv : vp_in (nI i) 16 := vp_in_nI hi (by decide)
  rw [hc]
  by_cases ht : th i = 0
  · rw [if_pos ht, Int32.add_zero] at h
    refine br_t ht ?_
    unfold wY_energy_90
    rw [hc, nI_1 i]
    exact ⟨hv, br_t ht (nm_e h)⟩
  · rw [if_neg ht] at h
    refine br_f ht ?_
    rcases ha with rfl | rfl <;> rcases hb with rfl | rfl
    · rw [show cl_V (nI 0) (nI 0) (uc i) (dc i) = 0 from if_pos rfl, Int32.add_zero] at h
      exact br_t cl_l00 (cy_90 th fr to uc dc cs post J l s _ _ hi ht (fun _ => h) (fun g => absurd cl_l00 g))
    · rw [show cl_V (nI 0) (nI 1) (uc i) (dc i) = uc i from (if_neg cl_n01).trans (if_pos nI_0)] at h
      exact br_f cl_l10 ⟨hv, nm_e (cy_90 th fr to uc dc cs post J l _ _ _ hi ht (fun _ => h) (fun g => absurd cl_l01 g))⟩
    · rw [show cl_V (nI 1) (nI 0) (uc i) (dc i) = dc i from (if_neg cl_n10).trans (if_neg cl_1ne)] at h
      exact br_t cl_l01 (cy_90 th fr to uc dc cs post J l s _ _ hi ht (fun g => absurd g cl_l10) (fun _ => h))
    · rw [show cl_V (nI 1) (nI 1) (uc i) (dc i) = 0 from if_pos rfl, Int32.add_zero] at h
      exact br_t cl_l11 (cy_90 th fr to uc dc cs post J l s _ _ hi ht (fun _ => h) (fun g => absurd cl_l11 g))
theorem cy_e35 (post : Int32 → Prop) (l s0 : Int32) (h : post (cl_A s0 (cl_T th fr to uc dc l) 16)) : ∃ n, wY_energy_35 post l cs th fr to uc dc n s0 0 := by
  refine loop_0 (fun n i s => wY_energy_35 post l cs th fr to uc dc n s (nI i)) (fun i s => s = cl_A s0 (cl_T th fr to uc dc l) i) 16 s0 rfl ?_ ?_
  · intro n s e
    exact br_t cl_x16 (e ▸ h)
  · intro n i s hi e k
    have hc : (nI i).toNatClampNeg = i := nI_clamp (by omega)
    have hv : vp_in (nI i) 16 := vp_in_nI hi (by decide)
    refine br_f (cl_i16 hi) ⟨hv, ⟨hv, ⟨hv, cy_tie th fr to uc dc cs post _ l s _ _ hi (cl_lab01 l _) (cl_lab01 l _) (k _ ?_)⟩⟩⟩
    show s + (if th i = 0 then 0 else cl_V (cl_lab l (fr (nI i).toNatClampNeg)) (cl_lab l (to (nI i).toNatClampNeg)) (uc i) (dc i)) = cl_A s0 (cl_T th fr to uc dc l) i + cl_T th fr to uc dc l i
    rw [e, hc]
    rfl
theorem cy_ix0 {i : Nat} {r : Int32} (h : r = nI 0) : 2 * nI i + r = nI (2 * i) := by
  rw [h, show (2 : Int32) = nI 2 by decide +kernel, pk_mul, nI_add, Nat.add_zero]
theorem cy_ix1 {i : Nat} {r : Int32} (h : r = nI 1) : 2 * nI i + r = nI (2 * i + 1) := by
  rw [h, show (2 : Int32) = nI 2 by decide +kernel, pk_mul, nI_add]
theorem cy_e (hcs : ∀ p, p < 9 → cs (2 * p) = zc p ∧ cs (2 * p + 1) = oc p) (post : Int32 → Prop) (l : Int32) (h : post (cl_E zc oc th fr to uc dc l)) : wpY_energy post (cs, th, fr, to, uc, dc) l := by
  refine loop_0 (fun n i s => wY_energy_4 post l cs th fr to uc dc n s (nI i)) (fun i s => s = cl_A 0 (cl_P zc oc l) i) 9 0 rfl ?_ ?_
  · intro n s e
    refine br_t cl_x9 (cy_e35 th fr to uc dc cs post l s ?_)
    rw [e]
    exact h
  · intro n i s hi e k
    refine br_f (cl_i9 hi) ?_
    rcases cl_lab01 l (nI i) with hz | hz
    · have ev : 2 * nI i + cl_lab l (nI i) = nI (2 * i) := cy_ix0 hz
      refine ⟨?_, nm_e (nm_r (nI_1 i) (k _ ?_))⟩
      · show vp_in (2 * nI i + cl_lab l (nI i)) 18
        rw [ev]
        exact vp_in_nI (by omega) (by decide)
      · show s + cs (2 * nI i + cl_lab l (nI i)).toNatClampNeg = cl_A 0 (cl_P zc oc l) i + cl_P zc oc l i
        rw [e, ev, nI_clamp (by omega), (hcs i hi).1, show cl_P zc oc l i = zc i from if_pos (hz.trans nI_0)]
    · have ev : 2 * nI i + cl_lab l (nI i) = nI (2 * i + 1) := cy_ix1 hz
      refine ⟨?_, nm_e (nm_r (nI_1 i) (k _ ?_))⟩
      · show vp_in (2 * nI i + cl_lab l (nI i)) 18
        rw [ev]
        exact vp_in_nI (by omega) (by decide)
      · show s + cs (2 * nI i + cl_lab l (nI i)).toNatClampNeg = cl_A 0 (cl_P zc oc l) i + cl_P zc oc l i
        rw [e, ev, nI_clamp (by omega), (hcs i hi).2, show cl_P zc oc l i = oc i from if_neg (fun g => cl_1ne (hz.symm.trans g))]
end
