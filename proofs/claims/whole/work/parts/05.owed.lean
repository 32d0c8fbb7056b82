/-- both keep the ties in the same arrays, and the reference keeps place p's costs in its cells 2 p and 2 p + 1; costs lie from 0 to 100, ends of ties from 0 to 8 -/
def i_Rel (_ : Nat) (u : SX) (v : SY) : Prop := ∃ zc oc th fr to uc dc cs : Nat → Int32, u = (zc, oc, th, fr, to, uc, dc) ∧ v = (cs, th, fr, to, uc, dc) ∧ cl_R zc oc fr to uc dc cs
theorem i_up {k : Nat} {u : SX} {v : SY} (h : i_Rel k u v) : i_Rel (k + 6) u v := h
theorem i_vc0 : wpX_init (fun u => wpY_init (fun v => i_Rel 0 u v)) := ⟨_, _, _, _, _, _, _, _, rfl, rfl, cl_R0⟩
theorem i_vc_cost {k : Nat} {u : SX} {v : SY} (I : i_Rel k u v) (hk : k + 6 ≤ 3072) (v1 : Int32) (v2 : Int32) (v3 : Int32) : wpX_cost (fun r u' => wpY_cost (fun r' v' => r' = r ∧ i_Rel (k + 6) u' v') v v1 v2 v3) u v1 v2 v3 := by
  obtain ⟨zc, oc, th, fr, to, uc, dc, cs, rfl, rfl, R⟩ := I
  have J : i_Rel (k + 6) (zc, oc, th, fr, to, uc, dc) (cs, th, fr, to, uc, dc) := ⟨zc, oc, th, fr, to, uc, dc, cs, rfl, rfl, R⟩
  unfold wpX_cost wpY_cost
  dsimp only
  rcases cl_ix v1 9 (by decide) with ⟨p, hp, rfl⟩ | h1
  · rcases cl_ix v2 101 (by decide) with ⟨a, ha, rfl⟩ | h2
    · rcases cl_ix v3 101 (by decide) with ⟨b, hb, rfl⟩ | h3
      · have hv : vp_in (nI p) 9 := vp_in_nI hp (by decide)
        have e0 : (2 : Int32) * nI p = nI (2 * p) := by rw [show (2 : Int32) = nI 2 by decide +kernel, pk_mul]
        refine cx_pt hp (br_f cl_r10 (cx_ct ha (br_f cl_r10 (cx_ct hb (br_f cl_r10 ?_)))))
        refine ⟨hv, nm_e ⟨hv, nm_e ?_⟩⟩
        refine cy_pt hp (br_t rfl (cy_ct ha (br_t rfl (cy_ct hb (br_t rfl ?_)))))
        rw [e0, nI_1 (2 * p), nI_clamp (n := 2 * p) (by omega), nI_clamp (n := 2 * p + 1) (by omega), nI_clamp (n := p) (by omega)]
        exact ⟨vp_in_nI (by omega) (by decide), nm_e ⟨vp_in_nI (by omega) (by decide), nm_e ⟨rfl, _, _, _, _, _, _, _, _, rfl, rfl, cl_Rc R ha hb⟩⟩⟩
      · exact cx_pt hp (br_f cl_r10 (cx_ct ha (br_f cl_r10 (cx_cf h3 (br_t rfl (cy_pt hp (br_t rfl (cy_ct ha (br_t rfl (cy_cf h3 (br_f cl_r10 ⟨rfl, J⟩)))))))))))
    · exact cx_pt hp (br_f cl_r10 (cx_cf h2 (br_t rfl (cy_pt hp (br_t rfl (cy_cf h2 (br_f cl_r10 ⟨rfl, J⟩)))))))
  · exact cx_pf h1 (br_t rfl (cy_pf h1 (br_f cl_r10 ⟨rfl, J⟩)))
theorem i_vc_tie {k : Nat} {u : SX} {v : SY} (I : i_Rel k u v) (hk : k + 6 ≤ 3072) (v1 : Int32) (v2 : Int32) (v3 : Int32) (v4 : Int32) (v5 : Int32) : wpX_tie (fun r u' => wpY_tie (fun r' v' => r' = r ∧ i_Rel (k + 6) u' v') v v1 v2 v3 v4 v5) u v1 v2 v3 v4 v5 := by
  obtain ⟨zc, oc, th, fr, to, uc, dc, cs, rfl, rfl, R⟩ := I
  have J : i_Rel (k + 6) (zc, oc, th, fr, to, uc, dc) (cs, th, fr, to, uc, dc) := ⟨zc, oc, th, fr, to, uc, dc, cs, rfl, rfl, R⟩
  unfold wpX_tie wpY_tie
  dsimp only
  rcases cl_ix v1 16 (by decide) with ⟨t, ht, rfl⟩ | h1
  · have g0 : ¬ nI t < 0 := nI_pos (by omega)
    have g1 : ¬ (15 : Int32) < nI t := Int32.not_lt.mpr (cl_15 ht)
    refine cx_tt ht (br_f cl_r10 ?_)
    rcases cl_ix v2 9 (by decide) with ⟨i, hi, rfl⟩ | h2
    · rcases cl_ix v3 9 (by decide) with ⟨j, hj, rfl⟩ | h3
      · by_cases hn : nI i = nI j
        · exact cx_2c hi hj hn (br_t rfl (br_f g0 (br_f g1 (cy_pt hi (br_t rfl (cy_pt hj (br_t rfl (br_t hn ⟨rfl, J⟩))))))))
        · refine cx_2t hi hj hn (br_f cl_r10 ?_)
          rcases cl_ix v4 101 (by decide) with ⟨a, ha, rfl⟩ | h4
          · rcases cl_ix v5 101 (by decide) with ⟨b, hb, rfl⟩ | h5
            · have hv : vp_in (nI t) 16 := vp_in_nI ht (by decide)
              refine cx_ct ha (br_f cl_r10 (cx_ct hb (br_f cl_r10 ?_)))
              refine ⟨hv, nm_e ⟨hv, nm_e ⟨hv, nm_e ⟨hv, nm_e ⟨hv, nm_e ?_⟩⟩⟩⟩⟩
              refine br_f g0 (br_f g1 (cy_pt hi (br_t rfl (cy_pt hj (br_t rfl (br_f hn (cy_ct ha (br_t rfl (cy_ct hb (br_t rfl ?_))))))))))
              exact ⟨hv, nm_e ⟨hv, nm_e ⟨hv, nm_e ⟨hv, nm_e ⟨hv, nm_e ⟨rfl, _, _, _, _, _, _, _, _, rfl, rfl, cl_Rt R hi hj ha hb⟩⟩⟩⟩⟩⟩
            · exact cx_ct ha (br_f cl_r10 (cx_cf h5 (br_t rfl (br_f g0 (br_f g1 (cy_pt hi (br_t rfl (cy_pt hj (br_t rfl (br_f hn (cy_ct ha (br_t rfl (cy_cf h5 (br_f cl_r10 ⟨rfl, J⟩))))))))))))))
          · exact cx_cf h4 (br_t rfl (br_f g0 (br_f g1 (cy_pt hi (br_t rfl (cy_pt hj (br_t rfl (br_f hn (cy_cf h4 (br_f cl_r10 ⟨rfl, J⟩))))))))))
      · exact cx_2b hi h3 (br_t rfl (br_f g0 (br_f g1 (cy_pt hi (br_t rfl (cy_pf h3 (br_f cl_r10 ⟨rfl, J⟩)))))))
    · exact cx_2a h2 (br_t rfl (br_f g0 (br_f g1 (cy_pf h2 (br_f cl_r10 ⟨rfl, J⟩)))))
  · refine cx_tf h1 (br_t rfl ?_)
    rcases h1 with g | ⟨g, g'⟩
    · exact br_t g ⟨rfl, J⟩
    · exact br_f g (br_t (Int32.not_le.mp (cl_15n g g')) ⟨rfl, J⟩)
theorem i_vc_cut {k : Nat} {u : SX} {v : SY} (I : i_Rel k u v) (hk : k + 6 ≤ 3072) (v1 : Int32) : wpX_cut (fun r u' => wpY_cut (fun r' v' => r' = r ∧ i_Rel (k + 6) u' v') v v1) u v1 := by
  obtain ⟨zc, oc, th, fr, to, uc, dc, cs, rfl, rfl, R⟩ := I
  have J : ∀ th', i_Rel (k + 6) (zc, oc, th', fr, to, uc, dc) (cs, th', fr, to, uc, dc) := fun th' => ⟨zc, oc, th', fr, to, uc, dc, cs, rfl, rfl, R⟩
  unfold wpX_cut wpY_cut
  dsimp only
  rcases cl_ix v1 16 (by decide) with ⟨t, ht, rfl⟩ | h1
  · have g0 : ¬ nI t < 0 := nI_pos (by omega)
    have hv : vp_in (nI t) 16 := vp_in_nI ht (by decide)
    refine cx_tt ht (br_f cl_r10 ⟨hv, ?_⟩)
    unfold wX_cut_23
    by_cases hz : th (nI t).toNatClampNeg = 0
    · exact br_t hz ⟨hv, nm_e (br_f g0 (br_t (cl_15 ht) ⟨hv, nm_e ⟨hv, nm_e (br_t hz ⟨rfl, J _⟩)⟩⟩))⟩
    · exact br_f hz ⟨hv, nm_e (br_f g0 (br_t (cl_15 ht) ⟨hv, nm_e ⟨hv, nm_e (br_f hz ⟨rfl, J _⟩)⟩⟩))⟩
  · refine cx_tf h1 (br_t rfl ?_)
    rcases h1 with g | ⟨g, g'⟩
    · exact br_t g ⟨rfl, J _⟩
    · exact br_f g (br_f (cl_15n g g') ⟨rfl, J _⟩)
theorem i_vc_least {k : Nat} {u : SX} {v : SY} (I : i_Rel k u v) (hk : k + 6 ≤ 3072) : wpX_least (fun r => wpY_least (fun r' => r' = r ∧ i_Rel (k + 6) u v) v) u := by
  obtain ⟨zc, oc, th, fr, to, uc, dc, cs, rfl, rfl, R⟩ := I
  have J : i_Rel (k + 6) (zc, oc, th, fr, to, uc, dc) (cs, th, fr, to, uc, dc) := ⟨zc, oc, th, fr, to, uc, dc, cs, rfl, rfl, R⟩
  unfold wpX_least
  dsimp only
  refine cx_le zc oc th fr to uc dc _ ?_
  refine cy_le zc oc th fr to uc dc cs R.1 (cl_Rb1 R) _ ?_
  exact ⟨rfl, J⟩
theorem i_vc_lower {k : Nat} {u : SX} {v : SY} (I : i_Rel k u v) (hk : k + 6 ≤ 3072) : wpX_lower (fun r => wpY_lower (fun r' => r' = r ∧ i_Rel (k + 6) u v) v) u := by
  obtain ⟨zc, oc, th, fr, to, uc, dc, cs, rfl, rfl, R⟩ := I
  have J : i_Rel (k + 6) (zc, oc, th, fr, to, uc, dc) (cs, th, fr, to, uc, dc) := ⟨zc, oc, th, fr, to, uc, dc, cs, rfl, rfl, R⟩
  unfold wpX_lower wpY_lower
  dsimp only
  refine cx_le zc oc th fr to uc dc _ ?_
  refine cx_lo zc oc th fr to uc dc _ _ ?_
  refine cy_le zc oc th fr to uc dc cs R.1 (cl_Rb1 R) _ ?_
  refine cy_lo zc oc th fr to uc dc cs R.1 _ _ ?_
  exact ⟨rfl, J⟩
theorem i_vc_upper {k : Nat} {u : SX} {v : SY} (I : i_Rel k u v) (hk : k + 6 ≤ 3072) : wpX_upper (fun r => wpY_upper (fun r' => r' = r ∧ i_Rel (k + 6) u v) v) u := by
  obtain ⟨zc, oc, th, fr, to, uc, dc, cs, rfl, rfl, R⟩ := I
  have J : i_Rel (k + 6) (zc, oc, th, fr, to, uc, dc) (cs, th, fr, to, uc, dc) := ⟨zc, oc, th, fr, to, uc, dc, cs, rfl, rfl, R⟩
  unfold wpX_upper wpY_upper
  dsimp only
  refine cx_le zc oc th fr to uc dc _ ?_
  refine cx_up zc oc th fr to uc dc _ _ ?_
  refine cy_le zc oc th fr to uc dc cs R.1 (cl_Rb1 R) _ ?_
  refine cy_up zc oc th fr to uc dc cs R.1 _ _ ?_
  exact ⟨rfl, J⟩
theorem i_vc_with {k : Nat} {u : SX} {v : SY} (I : i_Rel k u v) (hk : k + 6 ≤ 3072) (v1 : Int32) (v2 : Int32) : wpX_with (fun r => wpY_with (fun r' => r' = r ∧ i_Rel (k + 6) u v) v v1 v2) u v1 v2 := by
  obtain ⟨zc, oc, th, fr, to, uc, dc, cs, rfl, rfl, R⟩ := I
  have J : i_Rel (k + 6) (zc, oc, th, fr, to, uc, dc) (cs, th, fr, to, uc, dc) := ⟨zc, oc, th, fr, to, uc, dc, cs, rfl, rfl, R⟩
  unfold wpX_with wpY_with
  dsimp only
  rcases cl_ix v1 9 (by decide) with ⟨p, hp, rfl⟩ | h1
  · refine cx_pt hp (br_f cl_r10 (nm_e ?_))
    refine cx_wi zc oc th fr to uc dc _ _ _ ?_
    refine cy_pt hp (br_t rfl ?_)
    refine cy_wi zc oc th fr to uc dc cs R.1 _ _ _ ?_
    exact ⟨(cl_Weq (cl_Rb1 R) (cl_Rb2 R) (cl_wW hp v2)).symm, J⟩
  · exact cx_pf h1 (br_t rfl (cy_pf h1 (br_f cl_r10 ⟨rfl, J⟩)))
theorem i_vc_apart {k : Nat} {u : SX} {v : SY} (I : i_Rel k u v) (hk : k + 6 ≤ 3072) (v1 : Int32) (v2 : Int32) : wpX_apart (fun r => wpY_apart (fun r' => r' = r ∧ i_Rel (k + 6) u v) v v1 v2) u v1 v2 := by
  obtain ⟨zc, oc, th, fr, to, uc, dc, cs, rfl, rfl, R⟩ := I
  have J : i_Rel (k + 6) (zc, oc, th, fr, to, uc, dc) (cs, th, fr, to, uc, dc) := ⟨zc, oc, th, fr, to, uc, dc, cs, rfl, rfl, R⟩
  unfold wpX_apart wpY_apart
  dsimp only
  rcases cl_ix v1 9 (by decide) with ⟨i, hi, rfl⟩ | h1
  · rcases cl_ix v2 9 (by decide) with ⟨j, hj, rfl⟩ | h2
    · by_cases hn : nI i = nI j
      · exact cx_2c hi hj hn (br_t rfl (cy_pt hi (br_t rfl (cy_pt hj (br_t rfl (br_t hn ⟨rfl, J⟩))))))
      · refine cx_2t hi hj hn (br_f cl_r10 ?_)
        refine cx_ap zc oc th fr to uc dc _ _ _ ?_
        refine cy_pt hi (br_t rfl (cy_pt hj (br_t rfl (br_f hn ?_))))
        refine cy_ap zc oc th fr to uc dc cs R.1 _ _ _ ?_
        exact ⟨(cl_Weq (cl_Rb1 R) (cl_Rb2 R) (cl_wA hi hj hn)).symm, J⟩
    · exact cx_2b hi h2 (br_t rfl (cy_pt hi (br_t rfl (cy_pf h2 (br_f cl_r10 ⟨rfl, J⟩)))))
  · exact cx_2a h1 (br_t rfl (cy_pf h1 (br_f cl_r10 ⟨rfl, J⟩)))
theorem i_vc_energy {k : Nat} {u : SX} {v : SY} (I : i_Rel k u v) (hk : k + 6 ≤ 3072) (v1 : Int32) : wpX_energy (fun r => wpY_energy (fun r' => r' = r ∧ i_Rel (k + 6) u v) v v1) u v1 := by
  obtain ⟨zc, oc, th, fr, to, uc, dc, cs, rfl, rfl, R⟩ := I
  have J : i_Rel (k + 6) (zc, oc, th, fr, to, uc, dc) (cs, th, fr, to, uc, dc) := ⟨zc, oc, th, fr, to, uc, dc, cs, rfl, rfl, R⟩
  unfold wpX_energy
  dsimp only
  refine cx_e zc oc th fr to uc dc _ _ ?_
  refine cy_e zc oc th fr to uc dc cs R.1 _ _ ?_
  exact ⟨(cl_Em R.2.2.2 v1).symm, J⟩
