section
variable (zc oc th fr to uc dc cs : Nat → Int32)
/-- the energy of labelling number i -/
def cl_N (i : Nat) : Int32 := cl_E zc oc th fr to uc dc (nI i)
def cl_q1 (_ : Nat) : Bool := true
/-- the least energy -/
def cl_best : Int32 := cl_W (cl_N zc oc th fr to uc dc) cl_q1 2501 512
theorem cx_le (post : Int32 → Prop) (h : post (cl_best zc oc th fr to uc dc)) : wpX_leastEnergy post (zc, oc, th, fr, to, uc, dc) := by
  refine loop_0 (fun n i s => wX_leastEnergy_6 post zc oc th fr to uc dc n s (nI i)) (fun i s => s = cl_W (cl_N zc oc th fr to uc dc) cl_q1 2501 i) 512 2501 rfl ?_ ?_
  · intro n s e
    exact br_t cl_x512 (e ▸ h)
  · intro n i s hi e k
    refine br_f (cl_i512 hi) (cx_e zc oc th fr to uc dc _ (nI i) ?_)
    refine br_c (fun g => nm_r (nI_1 i) (k s ?_)) (fun g => nm_r (nI_1 i) (k _ ?_))
    · rw [e] at g ⊢
      exact (cl_Wle rfl g).symm
    · rw [e] at g
      exact (cl_Wgt rfl g).symm
theorem cy_le (hcs : ∀ p, p < 9 → cs (2 * p) = zc p ∧ cs (2 * p + 1) = oc p) (hb : ∀ i, ¬ (2501 : Int32) ≤ cl_N zc oc th fr to uc dc i) (post : Int32 → Prop) (h : post (cl_best zc oc th fr to uc dc)) : wpY_least post (cs, th, fr, to, uc, dc) := by
  refine cy_e zc oc th fr to uc dc cs hcs _ 0 ?_
  refine pk_loop (fun n i s => wY_least_8 post cs th fr to uc dc n s (nI i)) (fun i s => s = cl_W (cl_N zc oc th fr to uc dc) cl_q1 2501 i) 512 1 _ (by decide) ?_ ?_ ?_
  · exact (cl_Wgt (E := cl_N zc oc th fr to uc dc) (q := cl_q1) (b := 2501) (n := 0) rfl (hb 0)).symm
  · intro n s e
    exact br_t cl_x512 (e ▸ h)
  · intro n i s hi e k
    refine br_f (cl_i512 hi) (cy_e zc oc th fr to uc dc cs hcs _ (nI i) ?_)
    refine br_c (fun g => nm_r (nI_1 i) (k s ?_)) (fun g => nm_r (nI_1 i) (k _ ?_))
    · rw [e] at g ⊢
      exact (cl_Wle rfl g).symm
    · rw [e] at g
      exact (cl_Wgt rfl g).symm
theorem cx_lo (post : Int32 → Prop) (b : Int32) (h : post (cl_L (cl_N zc oc th fr to uc dc) b 512)) : ∃ n, wX_lower_11 post b zc oc th fr to uc dc n 511 0 := by
  refine loop_0 (fun n i s => wX_lower_11 post b zc oc th fr to uc dc n s (nI i)) (fun i s => s = cl_L (cl_N zc oc th fr to uc dc) b i) 512 511 rfl ?_ ?_
  · intro n s e
    exact br_t cl_x512 (e ▸ h)
  · intro n i s hi e k
    refine br_f (cl_i512 hi) (cx_e zc oc th fr to uc dc _ (nI i) ?_)
    refine br_c (fun g => nm_e (nm_r (nI_1 i) (k _ ?_))) (fun g => nm_r (nI_1 i) (k s ?_))
    · rw [e]
      exact (if_pos g).symm
    · rw [e]
      exact (if_neg g).symm
theorem cy_lo (hcs : ∀ p, p < 9 → cs (2 * p) = zc p ∧ cs (2 * p + 1) = oc p) (post : Int32 → Prop) (b : Int32) (h : post (cl_L (cl_N zc oc th fr to uc dc) b 512)) : ∃ n, wY_lower_11 post b cs th fr to uc dc n 511 0 := by
  refine loop_0 (fun n i s => wY_lower_11 post b cs th fr to uc dc n s (nI i)) (fun i s => s = cl_L (cl_N zc oc th fr to uc dc) b i) 512 511 rfl ?_ ?_
  · intro n s e
    exact br_t cl_x512 (e ▸ h)
  · intro n i s hi e k
    refine br_f (cl_i512 hi) (cy_e zc oc th fr to uc dc cs hcs _ (nI i) ?_)
    refine br_c (fun g => nm_e (nm_r (nI_1 i) (k _ ?_))) (fun g => nm_r (nI_1 i) (k s ?_))
    · rw [e]
      exact (if_pos g).symm
    · rw [e]
      exact (if_neg g).symm
theorem cx_up (post : Int32 → Prop) (b : Int32) (h : post (cl_U (cl_N zc oc th fr to uc dc) b 512)) : ∃ n, wX_upper_9 post b zc oc th fr to uc dc n 0 0 := by
  refine loop_0 (fun n i s => wX_upper_9 post b zc oc th fr to uc dc n s (nI i)) (fun i s => s = cl_U (cl_N zc oc th fr to uc dc) b i) 512 0 rfl ?_ ?_
  · intro n s e
    exact br_t cl_x512 (e ▸ h)
  · intro n i s hi e k
    refine br_f (cl_i512 hi) (cx_e zc oc th fr to uc dc _ (nI i) ?_)
    refine br_c (fun g => nm_e (nm_r (nI_1 i) (k _ ?_))) (fun g => nm_r (nI_1 i) (k s ?_))
    · rw [e]
      exact (if_pos g).symm
    · rw [e]
      exact (if_neg g).symm
theorem cy_up (hcs : ∀ p, p < 9 → cs (2 * p) = zc p ∧ cs (2 * p + 1) = oc p) (post : Int32 → Prop) (b : Int32) (h : post (cl_U (cl_N zc oc th fr to uc dc) b 512)) : ∃ n, wY_upper_9 post b cs th fr to uc dc n 0 0 := by
  refine loop_0 (fun n i s => wY_upper_9 post b cs th fr to uc dc n s (nI i)) (fun i s => s = cl_U (cl_N zc oc th fr to uc dc) b i) 512 0 rfl ?_ ?_
  · intro n s e
    exact br_t cl_x512 (e ▸ h)
  · intro n i s hi e k
    refine br_f (cl_i512 hi) (cy_e zc oc th fr to uc dc cs hcs _ (nI i) ?_)
    refine br_c (fun g => nm_e (nm_r (nI_1 i) (k _ ?_))) (fun g => nm_r (nI_1 i) (k s ?_))
    · rw [e]
      exact (if_pos g).symm
    · rw [e]
      exact (if_neg g).symm
/-- labelling i gives place p the label b -/
def cl_qw (p b : Int32) (i : Nat) : Bool := decide (cl_lab (nI i) p = b)
/-- labelling i gives the two places different labels -/
def cl_qa (p p' : Int32) (i : Nat) : Bool := decide (¬ cl_lab (nI i) p = cl_lab (nI i) p')
theorem cx_wi (post : Int32 → Prop) (p b : Int32) (h : post (cl_W (cl_N zc oc th fr to uc dc) (cl_qw p b) 2501 512)) : ∃ n, wX_with_21 post p b zc oc th fr to uc dc n 2501 0 := by
  refine loop_0 (fun n i s => wX_with_21 post p b zc oc th fr to uc dc n s (nI i)) (fun i s => s = cl_W (cl_N zc oc th fr to uc dc) (cl_qw p b) 2501 i) 512 2501 rfl ?_ ?_
  · intro n s e
    exact br_t cl_x512 (e ▸ h)
  · intro n i s hi e k
    refine br_f (cl_i512 hi) ?_
    by_cases hq : cl_lab (nI i) p = b
    · have q : cl_qw p b i = true := decide_eq_true hq
      refine br_t hq (cx_e zc oc th fr to uc dc _ (nI i) ?_)
      refine br_c (fun g => nm_r (nI_1 i) (k s ?_)) (fun g => nm_r (nI_1 i) (k _ ?_))
      · rw [e] at g ⊢
        exact (cl_Wle q g).symm
      · rw [e] at g
        exact (cl_Wgt q g).symm
    · have q : ¬ cl_qw p b i = true := fun z => hq (of_decide_eq_true z)
      refine br_f hq (nm_r (nI_1 i) (k s ?_))
      rw [e]
      exact (cl_Wno q).symm
theorem cy_wi (hcs : ∀ p, p < 9 → cs (2 * p) = zc p ∧ cs (2 * p + 1) = oc p) (post : Int32 → Prop) (p b : Int32) (h : post (cl_W (cl_N zc oc th fr to uc dc) (cl_qw p (b &&& 1)) 1000000 512)) : ∃ n, wY_with_15 post p b cs th fr to uc dc n 1000000 0 := by
  refine loop_0 (fun n i s => wY_with_15 post p b cs th fr to uc dc n s (nI i)) (fun i s => s = cl_W (cl_N zc oc th fr to uc dc) (cl_qw p (b &&& 1)) 1000000 i) 512 1000000 rfl ?_ ?_
  · intro n s e
    exact br_t cl_x512 (e ▸ h)
  · intro n i s hi e k
    refine br_f (cl_i512 hi) (cy_e zc oc th fr to uc dc cs hcs _ (nI i) ?_)
    by_cases hq : cl_lab (nI i) p = (b &&& 1)
    · have q : cl_qw p (b &&& 1) i = true := decide_eq_true hq
      refine br_t hq ?_
      refine br_c (fun g => nm_r (nI_1 i) (k s ?_)) (fun g => nm_r (nI_1 i) (k _ ?_))
      · rw [e] at g ⊢
        exact (cl_Wle q g).symm
      · rw [e] at g
        exact (cl_Wgt q g).symm
    · have q : ¬ cl_qw p (b &&& 1) i = true := fun z => hq (of_decide_eq_true z)
      refine br_f hq (nm_r (nI_1 i) (k s ?_))
      rw [e]
      exact (cl_Wno q).symm
theorem cx_ap (post : Int32 → Prop) (p p' : Int32) (h : post (cl_W (cl_N zc oc th fr to uc dc) (cl_qa p p') 2501 512)) : ∃ n, wX_apart_17 post p p' zc oc th fr to uc dc n 2501 0 := by
  refine loop_0 (fun n i s => wX_apart_17 post p p' zc oc th fr to uc dc n s (nI i)) (fun i s => s = cl_W (cl_N zc oc th fr to uc dc) (cl_qa p p') 2501 i) 512 2501 rfl ?_ ?_
  · intro n s e
    exact br_t cl_x512 (e ▸ h)
  · intro n i s hi e k
    refine br_f (cl_i512 hi) ?_
    by_cases hq : cl_lab (nI i) p = cl_lab (nI i) p'
    · have q : ¬ cl_qa p p' i = true := fun z => of_decide_eq_true z hq
      refine br_t hq (nm_r (nI_1 i) (k s ?_))
      rw [e]
      exact (cl_Wno q).symm
    · have q : cl_qa p p' i = true := decide_eq_true hq
      refine br_f hq (cx_e zc oc th fr to uc dc _ (nI i) ?_)
      refine br_c (fun g => nm_r (nI_1 i) (k s ?_)) (fun g => nm_r (nI_1 i) (k _ ?_))
      · rw [e] at g ⊢
        exact (cl_Wle q g).symm
      · rw [e] at g
        exact (cl_Wgt q g).symm
theorem cy_ap (hcs : ∀ p, p < 9 → cs (2 * p) = zc p ∧ cs (2 * p + 1) = oc p) (post : Int32 → Prop) (p p' : Int32) (h : post (cl_W (cl_N zc oc th fr to uc dc) (cl_qa p p') 1000000 512)) : ∃ n, wY_apart_27 post p p' cs th fr to uc dc n 1000000 0 := by
  refine loop_0 (fun n i s => wY_apart_27 post p p' cs th fr to uc dc n s (nI i)) (fun i s => s = cl_W (cl_N zc oc th fr to uc dc) (cl_qa p p') 1000000 i) 512 1000000 rfl ?_ ?_
  · intro n s e
    exact br_t cl_x512 (e ▸ h)
  · intro n i s hi e k
    refine br_f (cl_i512 hi) (cy_e zc oc th fr to uc dc cs hcs _ (nI i) ?_)
    by_cases hq : cl_lab (nI i) p = cl_lab (nI i) p'
    · have q : ¬ cl_qa p p' i = true := fun z => of_decide_eq_true z hq
      refine br_t hq (nm_r (nI_1 i) (k s ?_))
      rw [e]
      exact (cl_Wno q).symm
    · have q : cl_qa p p' i = true := decide_eq_true hq
      refine br_f hq ?_
      refine br_c (fun g => nm_r (nI_1 i) (k s ?_)) (fun g => nm_r (nI_1 i) (k _ ?_))
      · rw [e] at g ⊢
        exact (cl_Wle q g).symm
      · rw [e] at g
        exact (cl_Wgt q g).symm
end
