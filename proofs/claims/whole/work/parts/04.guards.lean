theorem cx_pt {post : Int32 → Prop} {j : Nat} (hj : j < 9) (h : post 1) : wpX_isPlace post (nI j) := br_f (nI_pos (by omega)) (br_f (cl_i9 hj) h)
theorem cx_pf {post : Int32 → Prop} {x : Int32} (hx : x < 0 ∨ ¬ x < 0 ∧ nI 9 ≤ x) (h : post 0) : wpX_isPlace post x := by
  rcases hx with g | ⟨g, g'⟩
  · exact br_t g h
  · exact br_f g (br_t g' h)
theorem cl_8 {j : Nat} (hj : j < 9) : nI j ≤ (8 : Int32) := by
  rw [show (8 : Int32) = nI 8 by decide +kernel]; exact nI_le (by omega) (by decide)
theorem cl_up {x : Int32} (n : Nat) (hn : n + 1 < 2 ^ 31) (h0 : ¬ x < 0) (h : nI (n + 1) ≤ x) : ¬ x ≤ nI n := by
  obtain ⟨j, hj, rfl⟩ := nI_of h0
  rw [nI_leI hn hj] at h
  exact nI_ge (by omega) hj
theorem cy_pt {post : Int32 → Prop} {j : Nat} (hj : j < 9) (h : post 0) : wpY_bad post (nI j) := br_f (nI_pos (by omega)) (br_t (cl_8 hj) h)
theorem cy_pf {post : Int32 → Prop} {x : Int32} (hx : x < 0 ∨ ¬ x < 0 ∧ nI 9 ≤ x) (h : post 1) : wpY_bad post x := by
  rcases hx with g | ⟨g, g'⟩
  · exact br_t g h
  · exact br_f g (br_f (cl_up 8 (by decide) g g') h)
theorem cl_100 {j : Nat} (hj : j < 101) : nI j ≤ (100 : Int32) := by
  rw [show (100 : Int32) = nI 100 by decide +kernel]; exact nI_le (by omega) (by decide)
theorem cx_ct {post : Int32 → Prop} {j : Nat} (hj : j < 101) (h : post 1) : wpX_isCost post (nI j) := br_f (nI_pos (by omega)) (br_f (Int32.not_lt.mpr (cl_100 hj)) h)
theorem cx_cf {post : Int32 → Prop} {x : Int32} (hx : x < 0 ∨ ¬ x < 0 ∧ nI 101 ≤ x) (h : post 0) : wpX_isCost post x := by
  rcases hx with g | ⟨g, g'⟩
  · exact br_t g h
  · exact br_f g (br_t (Int32.not_le.mp (cl_up 100 (by decide) g g')) h)
theorem cy_ct {post : Int32 → Prop} {j : Nat} (hj : j < 101) (h : post 0) : wpY_badCost post (nI j) := br_f (nI_pos (by omega)) (br_t (cl_100 hj) h)
theorem cy_cf {post : Int32 → Prop} {x : Int32} (hx : x < 0 ∨ ¬ x < 0 ∧ nI 101 ≤ x) (h : post 1) : wpY_badCost post x := by
  rcases hx with g | ⟨g, g'⟩
  · exact br_t g h
  · exact br_f g (br_f (cl_up 100 (by decide) g g') h)
theorem cl_15 {j : Nat} (hj : j < 16) : nI j ≤ (15 : Int32) := by
  rw [show (15 : Int32) = nI 15 by decide +kernel]; exact nI_le (by omega) (by decide)
theorem cl_15n {x : Int32} (g : ¬ x < 0) (g' : nI 16 ≤ x) : ¬ x ≤ (15 : Int32) := cl_up 15 (by decide) g g'
theorem cx_tt {post : Int32 → Prop} {j : Nat} (hj : j < 16) (h : post 1) : wpX_isTie post (nI j) := br_f (nI_pos (by omega)) (br_f (cl_i16 hj) h)
theorem cx_tf {post : Int32 → Prop} {x : Int32} (hx : x < 0 ∨ ¬ x < 0 ∧ nI 16 ≤ x) (h : post 0) : wpX_isTie post x := by
  rcases hx with g | ⟨g, g'⟩
  · exact br_t g h
  · exact br_f g (br_t g' h)
theorem cx_2t {post : Int32 → Prop} {i j : Nat} (hi : i < 9) (hj : j < 9) (hn : ¬ nI i = nI j) (h : post 1) : wpX_areTwoPlaces post (nI i) (nI j) := by
  unfold wpX_areTwoPlaces
  exact cx_pt hi (br_f cl_r10 (cx_pt hj (br_f cl_r10 (br_f hn h))))
theorem cx_2a {post : Int32 → Prop} {x y : Int32} (hx : x < 0 ∨ ¬ x < 0 ∧ nI 9 ≤ x) (h : post 0) : wpX_areTwoPlaces post x y := by
  unfold wpX_areTwoPlaces
  exact cx_pf hx (br_t rfl h)
theorem cx_2b {post : Int32 → Prop} {i : Nat} {y : Int32} (hi : i < 9) (hy : y < 0 ∨ ¬ y < 0 ∧ nI 9 ≤ y) (h : post 0) : wpX_areTwoPlaces post (nI i) y := by
  unfold wpX_areTwoPlaces
  exact cx_pt hi (br_f cl_r10 (cx_pf hy (br_t rfl h)))
theorem cx_2c {post : Int32 → Prop} {i j : Nat} (hi : i < 9) (hj : j < 9) (hn : nI i = nI j) (h : post 0) : wpX_areTwoPlaces post (nI i) (nI j) := by
  unfold wpX_areTwoPlaces
  exact cx_pt hi (br_f cl_r10 (cx_pt hj (br_f cl_r10 (br_t hn h))))
def cl_R (zc oc fr to uc dc cs : Nat → Int32) : Prop := (∀ p, p < 9 → cs (2 * p) = zc p ∧ cs (2 * p + 1) = oc p) ∧ cl_Ok2 zc oc 9 ∧ cl_Ok2 uc dc 16 ∧ cl_OkP fr to
theorem cl_R0 : cl_R (fun _ => 0) (fun _ => 0) (fun _ => 0) (fun _ => 0) (fun _ => 0) (fun _ => 0) (fun _ => 0) :=
  ⟨fun _ _ => ⟨rfl, rfl⟩, fun _ _ => ⟨⟨0, by omega, nI_0.symm⟩, ⟨0, by omega, nI_0.symm⟩⟩, fun _ _ => ⟨⟨0, by omega, nI_0.symm⟩, ⟨0, by omega, nI_0.symm⟩⟩, fun _ _ => ⟨⟨0, by omega, nI_0.symm⟩, ⟨0, by omega, nI_0.symm⟩⟩⟩
theorem cl_Ok2u {zc oc : Nat → Int32} {n p a b : Nat} (h : cl_Ok2 zc oc n) (ha : a < 101) (hb : b < 101) : cl_Ok2 (upd zc p (nI a)) (upd oc p (nI b)) n := by
  intro q hq
  by_cases e : q = p
  · rw [e, cu_s, cu_s]
    exact ⟨⟨a, by omega, rfl⟩, ⟨b, by omega, rfl⟩⟩
  · rw [cu_n e, cu_n e]
    exact h q hq
theorem cl_OkPu {fr to : Nat → Int32} {p a b : Nat} (h : cl_OkP fr to) (ha : a < 9) (hb : b < 9) : cl_OkP (upd fr p (nI a)) (upd to p (nI b)) := by
  intro q hq
  by_cases e : q = p
  · rw [e, cu_s, cu_s]
    exact ⟨⟨a, by omega, rfl⟩, ⟨b, by omega, rfl⟩⟩
  · rw [cu_n e, cu_n e]
    exact h q hq
theorem cl_Rc {zc oc fr to uc dc cs : Nat → Int32} {p a b : Nat} (h : cl_R zc oc fr to uc dc cs) (ha : a < 101) (hb : b < 101) : cl_R (upd zc p (nI a)) (upd oc p (nI b)) fr to uc dc (upd (upd cs (2 * p) (nI a)) (2 * p + 1) (nI b)) := by
  refine ⟨fun q hq => ?_, cl_Ok2u h.2.1 ha hb, h.2.2⟩
  by_cases e : q = p
  · rw [e, cu_s, cu_s, cu_s, cu_n (by omega), cu_s]
    exact ⟨rfl, rfl⟩
  · rw [cu_n e, cu_n e, cu_n (by omega), cu_n (by omega), cu_n (by omega), cu_n (by omega)]
    exact h.1 q hq
theorem cl_Rt {zc oc fr to uc dc cs : Nat → Int32} {t i j a b : Nat} (h : cl_R zc oc fr to uc dc cs) (hi : i < 9) (hj : j < 9) (ha : a < 101) (hb : b < 101) : cl_R zc oc (upd fr t (nI i)) (upd to t (nI j)) (upd uc t (nI a)) (upd dc t (nI b)) cs :=
  ⟨h.1, h.2.1, cl_Ok2u h.2.2.1 ha hb, cl_OkPu h.2.2.2 hi hj⟩
theorem cl_Rb1 {zc oc th fr to uc dc cs : Nat → Int32} (h : cl_R zc oc fr to uc dc cs) (i : Nat) : ¬ (2501 : Int32) ≤ cl_N zc oc th fr to uc dc i := by
  obtain ⟨e, he, q⟩ := cl_Eb (th := th) (fr := fr) (to := to) h.2.1 h.2.2.1 (nI i)
  unfold cl_N
  rw [q]
  exact cl_b1 he
theorem cl_Rb2 {zc oc th fr to uc dc cs : Nat → Int32} (h : cl_R zc oc fr to uc dc cs) (i : Nat) : ¬ (1000000 : Int32) ≤ cl_N zc oc th fr to uc dc i := by
  obtain ⟨e, he, q⟩ := cl_Eb (th := th) (fr := fr) (to := to) h.2.1 h.2.2.1 (nI i)
  unfold cl_N
  rw [q]
  exact cl_b2 he
theorem cl_wW {j : Nat} (hj : j < 9) (b : Int32) : ∃ m, m < 512 ∧ cl_qw (nI j) (b &&& 1) m = true := by
  rcases cl_bit b with h | h
  · exact ⟨0, by decide, decide_eq_true ((cl_wit0 j hj).1.trans h.symm)⟩
  · exact ⟨2 ^ j, cl_pw j hj, decide_eq_true ((cl_wit0 j hj).2.trans h.symm)⟩
theorem cl_wA {i j : Nat} (hi : i < 9) (hj : j < 9) (hn : ¬ nI i = nI j) : ∃ m, m < 512 ∧ cl_qa (nI i) (nI j) m = true :=
  ⟨2 ^ i, cl_pw i hi, decide_eq_true (cl_wit1 i hi j hj (fun e => hn (congrArg nI e)))⟩
