section
theorem cu_s {f : Nat → Int32} {k : Nat} {x : Int32} : upd f k x k = x := if_pos rfl
theorem cu_n {f : Nat → Int32} {k j : Nat} {x : Int32} (h : j ≠ k) : upd f k x j = f j := if_neg h
theorem pk_loop {σ : Type} (W : Nat → Nat → σ → Prop) (I : Nat → σ → Prop) (e i0 : Nat) (s : σ) (hi : i0 ≤ e) (h0 : I i0 s) (hx : ∀ n s, I e s → W (n + 1) e s)
    (hs : ∀ n i s, i < e → I i s → (∀ s', I (i + 1) s' → W n (i + 1) s') → W (n + 1) i s) : ∃ n, W n i0 s :=
  ⟨e + 1, loop_i W I e hx hs (e + 1) i0 s hi (by omega) h0⟩
theorem pk_mul (a b : Nat) : nI a * nI b = nI (a * b) := (Int32.ofNat_mul a b).symm
theorem pk_and (x : Int32) {m : Int32} (k : Nat) (hm : m.toBitVec.toNat = 2 ^ k - 1) : x &&& m = nI (x.toBitVec.toNat % 2 ^ k) := by
  apply Int32.toBitVec_inj.mp
  apply BitVec.eq_of_toNat_eq
  rw [Int32.toBitVec_and, BitVec.toNat_and, hm, Nat.and_two_pow_sub_one_eq_mod]
  show _ = (BitVec.ofNat 32 _).toNat
  rw [BitVec.toNat_ofNat]
  exact (Nat.mod_eq_of_lt (Nat.lt_of_le_of_lt (Nat.mod_le _ _) x.toBitVec.isLt)).symm
/-- the label that labelling l gives to place p -/
def cl_lab (l p : Int32) : Int32 := (l >>> (p &&& 31)) &&& 1
theorem cl_bit (x : Int32) : x &&& 1 = nI 0 ∨ x &&& 1 = nI 1 := by
  have e := pk_and x (m := 1) 1 (by decide)
  have h : x.toBitVec.toNat % 2 ^ 1 = 0 ∨ x.toBitVec.toNat % 2 ^ 1 = 1 := by omega
  rcases h with h | h
  · rw [h] at e; exact Or.inl e
  · rw [h] at e; exact Or.inr e
theorem cl_lab01 (l p : Int32) : cl_lab l p = nI 0 ∨ cl_lab l p = nI 1 := cl_bit _
theorem cl_m511 : ∀ j, j < 9 → ((511 : Int32) >>> (nI j &&& 31)) &&& 1 = 1 := by decide +kernel
theorem cl_labm (x : Int32) {j : Nat} (hj : j < 9) : cl_lab (x &&& 511) (nI j) = cl_lab x (nI j) := by
  unfold cl_lab
  rw [Int32.shiftRight_and, Int32.and_assoc, cl_m511 j hj]
theorem cl_wit0 : ∀ j, j < 9 → cl_lab (nI 0) (nI j) = nI 0 ∧ cl_lab (nI (2 ^ j)) (nI j) = nI 1 := by decide +kernel
theorem cl_wit1 : ∀ i, i < 9 → ∀ j, j < 9 → i ≠ j → ¬ cl_lab (nI (2 ^ i)) (nI i) = cl_lab (nI (2 ^ i)) (nI j) := by decide +kernel
theorem cl_pw : ∀ j, j < 9 → 2 ^ j < 512 := by decide
/-- s, and f 0 .. f (n - 1) added to it one after the other -/
def cl_A (s : Int32) (f : Nat → Int32) : Nat → Int32
  | 0 => s
  | n + 1 => cl_A s f n + f n
theorem cl_Ac (s : Int32) (f g : Nat → Int32) : ∀ n, (∀ i, i < n → f i = g i) → cl_A s f n = cl_A s g n
  | 0, _ => rfl
  | n + 1, h => by
    show cl_A s f n + f n = cl_A s g n + g n
    rw [cl_Ac s f g n (fun i hi => h i (by omega)), h n (by omega)]
theorem cl_Ab (f : Nat → Int32) (s : Nat) : ∀ n, (∀ i, i < n → ∃ a : Nat, a ≤ 100 ∧ f i = nI a) → ∃ e : Nat, e ≤ s + 100 * n ∧ cl_A (nI s) f n = nI e
  | 0, _ => ⟨s, by omega, rfl⟩
  | n + 1, h => by
    obtain ⟨e, he, q⟩ := cl_Ab f s n (fun i hi => h i (by omega))
    obtain ⟨a, ha, qa⟩ := h n (by omega)
    refine ⟨e + a, by omega, ?_⟩
    show cl_A (nI s) f n + f n = nI (e + a)
    rw [q, qa, nI_add]
/-- what place i adds -/
def cl_P (zc oc : Nat → Int32) (l : Int32) (i : Nat) : Int32 := if cl_lab l (nI i) = 0 then zc i else oc i
/-- what a tie with these labels at its ends and these costs adds -/
def cl_V (a b u d : Int32) : Int32 := if a = b then 0 else if a = 0 then u else d
/-- what tie t adds -/
def cl_T (th fr to uc dc : Nat → Int32) (l : Int32) (t : Nat) : Int32 :=
  if th t = 0 then 0 else cl_V (cl_lab l (fr t)) (cl_lab l (to t)) (uc t) (dc t)
/-- the energy of labelling l -/
def cl_E (zc oc th fr to uc dc : Nat → Int32) (l : Int32) : Int32 := cl_A (cl_A 0 (cl_P zc oc l) 9) (cl_T th fr to uc dc l) 16
/-- the costs of places hold from 0 to 100 -/
def cl_Ok2 (zc oc : Nat → Int32) (n : Nat) : Prop := ∀ p, p < n → (∃ a : Nat, a ≤ 100 ∧ zc p = nI a) ∧ (∃ a : Nat, a ≤ 100 ∧ oc p = nI a)
def cl_OkP (fr to : Nat → Int32) : Prop := ∀ t, t < 16 → (∃ a : Nat, a < 9 ∧ fr t = nI a) ∧ (∃ a : Nat, a < 9 ∧ to t = nI a)
theorem cl_Eb {zc oc th fr to uc dc : Nat → Int32} (h : cl_Ok2 zc oc 9) (g : cl_Ok2 uc dc 16) (l : Int32) : ∃ e : Nat, e ≤ 2500 ∧ cl_E zc oc th fr to uc dc l = nI e := by
  obtain ⟨e, he, q⟩ := cl_Ab (cl_P zc oc l) 0 9 (fun i hi => by
    unfold cl_P
    split
    · exact (h i hi).1
    · exact (h i hi).2)
  rw [nI_0] at q
  obtain ⟨e', he', q'⟩ := cl_Ab (cl_T th fr to uc dc l) e 16 (fun i hi => by
    unfold cl_T cl_V
    split
    · exact ⟨0, by omega, nI_0.symm⟩
    · split
      · exact ⟨0, by omega, nI_0.symm⟩
      · split
        · exact (g i hi).1
        · exact (g i hi).2)
  refine ⟨e', by omega, ?_⟩
  unfold cl_E
  rw [q, q']
theorem cl_Em {zc oc th fr to uc dc : Nat → Int32} (h : cl_OkP fr to) (l : Int32) : cl_E zc oc th fr to uc dc (l &&& 511) = cl_E zc oc th fr to uc dc l := by
  unfold cl_E
  rw [cl_Ac 0 (cl_P zc oc (l &&& 511)) (cl_P zc oc l) 9 (fun i hi => by unfold cl_P; rw [cl_labm l hi])]
  refine cl_Ac _ _ _ 16 (fun t ht => ?_)
  obtain ⟨⟨a, ha, ea⟩, ⟨b, hb, eb⟩⟩ := h t ht
  unfold cl_T
  rw [ea, eb, cl_labm l ha, cl_labm l hb]
/-- the least of b and those E i, i < n, that q holds of -/
def cl_W (E : Nat → Int32) (q : Nat → Bool) (b : Int32) : Nat → Int32
  | 0 => b
  | n + 1 => if q n = true then (if cl_W E q b n ≤ E n then cl_W E q b n else E n) else cl_W E q b n
theorem cl_Wno {E : Nat → Int32} {q : Nat → Bool} {b : Int32} {n : Nat} (h : ¬ q n = true) : cl_W E q b (n + 1) = cl_W E q b n := if_neg h
theorem cl_Wle {E : Nat → Int32} {q : Nat → Bool} {b : Int32} {n : Nat} (h : q n = true) (g : cl_W E q b n ≤ E n) : cl_W E q b (n + 1) = cl_W E q b n := (if_pos h).trans (if_pos g)
theorem cl_Wgt {E : Nat → Int32} {q : Nat → Bool} {b : Int32} {n : Nat} (h : q n = true) (g : ¬ cl_W E q b n ≤ E n) : cl_W E q b (n + 1) = E n := (if_pos h).trans (if_neg g)
theorem cl_W2 (E : Nat → Int32) (q : Nat → Bool) (a b : Int32) (ha : ∀ i, ¬ a ≤ E i) (hb : ∀ i, ¬ b ≤ E i) : ∀ n, cl_W E q a n = cl_W E q b n ∨ (cl_W E q a n = a ∧ cl_W E q b n = b ∧ ∀ m, m < n → ¬ q m = true)
  | 0 => Or.inr ⟨rfl, rfl, fun m hm => absurd hm (Nat.not_lt_zero m)⟩
  | n + 1 => by
    by_cases hq : q n = true
    · refine Or.inl ?_
      rcases cl_W2 E q a b ha hb n with h | ⟨h1, h2, h3⟩
      · by_cases g : cl_W E q a n ≤ E n
        · rw [cl_Wle hq g, cl_Wle hq (h ▸ g), h]
        · rw [cl_Wgt hq g, cl_Wgt hq (h ▸ g)]
      · rw [cl_Wgt hq (by rw [h1]; exact ha n), cl_Wgt hq (by rw [h2]; exact hb n)]
    · rcases cl_W2 E q a b ha hb n with h | ⟨h1, h2, h3⟩
      · exact Or.inl (by rw [cl_Wno hq, cl_Wno hq, h])
      · refine Or.inr ⟨(cl_Wno hq).trans h1, (cl_Wno hq).trans h2, fun m hm => ?_⟩
        rcases Nat.lt_succ_iff_lt_or_eq.mp hm with h | h
        · exact h3 m h
        · rw [h]; exact hq
theorem cl_Weq {E : Nat → Int32} {q : Nat → Bool} {a b : Int32} {n : Nat} (ha : ∀ i, ¬ a ≤ E i) (hb : ∀ i, ¬ b ≤ E i) (h : ∃ m, m < n ∧ q m = true) : cl_W E q a n = cl_W E q b n := by
  obtain ⟨m, hm, hq⟩ := h
  rcases cl_W2 E q a b ha hb n with g | g
  · exact g
  · exact absurd hq (g.2.2 m hm)
/-- what lower's and upper's loops have gathered -/
def cl_L (E : Nat → Int32) (b : Int32) : Nat → Int32
  | 0 => 511
  | n + 1 => if E n = b then cl_L E b n &&& nI n else cl_L E b n
def cl_U (E : Nat → Int32) (b : Int32) : Nat → Int32
  | 0 => 0
  | n + 1 => if E n = b then cl_U E b n ||| nI n else cl_U E b n
theorem cl_9 : (9 : Int32) = nI 9 := by decide +kernel
theorem cl_16 : (16 : Int32) = nI 16 := by decide +kernel
theorem cl_512 : (512 : Int32) = nI 512 := by decide +kernel
theorem cl_x9 : (9 : Int32) ≤ nI 9 := by decide +kernel
theorem cl_x16 : (16 : Int32) ≤ nI 16 := by decide +kernel
theorem cl_x512 : (512 : Int32) ≤ nI 512 := by decide +kernel
theorem cl_i9 {i : Nat} (h : i < 9) : ¬ (9 : Int32) ≤ nI i := by rw [cl_9]; exact nI_ge h (by decide)
theorem cl_i16 {i : Nat} (h : i < 16) : ¬ (16 : Int32) ≤ nI i := by rw [cl_16]; exact nI_ge h (by decide)
theorem cl_i512 {i : Nat} (h : i < 512) : ¬ (512 : Int32) ≤ nI i := by rw [cl_512]; exact nI_ge h (by decide)
theorem cl_b1 {e : Nat} (h : e ≤ 2500) : ¬ (2501 : Int32) ≤ nI e := by
  rw [show (2501 : Int32) = nI 2501 by decide +kernel]; exact nI_ge (by omega) (by decide)
theorem cl_b2 {e : Nat} (h : e ≤ 2500) : ¬ (1000000 : Int32) ≤ nI e := by
  rw [show (1000000 : Int32) = nI 1000000 by decide +kernel]; exact nI_ge (by omega) (by decide)
theorem cl_1ne : ¬ (nI 1 : Int32) = 0 := by decide +kernel
theorem cl_r10 : ¬ (1 : Int32) = 0 := by decide
theorem cl_l00 : nI 0 ≤ nI 0 := by decide +kernel
theorem cl_l11 : nI 1 ≤ nI 1 := by decide +kernel
theorem cl_l01 : nI 0 ≤ nI 1 := by decide +kernel
theorem cl_l10 : ¬ nI 1 ≤ nI 0 := by decide +kernel
theorem cl_n01 : ¬ nI 0 = nI 1 := by decide +kernel
theorem cl_n10 : ¬ nI 1 = nI 0 := by decide +kernel
theorem cl_ix (x : Int32) (n : Nat) (hn : n < 2 ^ 31) : (∃ j : Nat, j < n ∧ x = nI j) ∨ (x < 0 ∨ ¬ x < 0 ∧ nI n ≤ x) := by
  by_cases h : x < 0
  · exact Or.inr (Or.inl h)
  · obtain ⟨j, hj, rfl⟩ := nI_of h
    by_cases h2 : j < n
    · exact Or.inl ⟨j, h2, rfl⟩
    · exact Or.inr (Or.inr ⟨h, nI_le (by omega) hj⟩)
end
section
section
variable (zc oc th fr to uc dc cs : Nat → Int32)
theorem cx_te (post : Int32 → Prop) (l : Int32) {t : Nat} (ht : t < 16) (h : post (cl_V (cl_lab l (fr t)) (cl_lab l (to t)) (uc t) (dc t))) : wpX_tieEnergy post (zc, oc, th, fr, to, uc, dc) (nI t) l := by
  have hv : vp_in (nI t) 16 := vp_in_nI ht (by decide)
  have hc : (nI t).toNatClampNeg = t := nI_clamp (by omega)
  unfold wpX_tieEnergy wpX_labelAt
  dsimp only
  rw [hc]
  refine ⟨hv, hv, ?_⟩
  unfold cl_V at h
  by_cases h1 : cl_lab l (fr t) = cl_lab l (to t)
  · rw [if_pos h1] at h
    exact br_t h1 h
  · rw [if_neg h1] at h
    refine br_f h1 ?_
    by_cases h2 : cl_lab l (fr t) = 0
    · rw [if_pos h2] at h
      exact br_t h2 ⟨hv, h⟩
    · rw [if_neg h2] at h
      exact br_f h2 ⟨hv, h⟩
theorem cx_e44 (post : Int32 → Prop) (l s0 : Int32) (h : post (cl_A s0 (cl_T th fr to uc dc l) 16)) : ∃ n, wX_energyOf_44 post l zc oc th fr to uc dc n s0 0 := by
  refine loop_0 (fun n i s => wX_energyOf_44 post l zc oc th fr to uc dc n s (nI i)) (fun i s => s = cl_A s0 (cl_T th fr to uc dc l) i) 16 s0 rfl ?_ ?_
  · intro n s e
    exact br_t cl_x16 (e ▸ h)
  · intro n i s hi e k
    have hc : (nI i).toNatClampNeg = i := nI_clamp (by omega)
    have hv : vp_in (nI i) 16 := vp_in_nI hi (by decide)
    refine br_f (cl_i16 hi) ⟨hv, ?_⟩
    rw [hc]
    by_cases ht : th i = 0
    · refine br_t ht (nm_r (nI_1 i) (k s ?_))
      show s = cl_A s0 (cl_T th fr to uc dc l) i + cl_T th fr to uc dc l i
      rw [e, show cl_T th fr to uc dc l i = 0 from if_pos ht, Int32.add_zero]
    · refine br_f ht (cx_te zc oc th fr to uc dc _ l hi (nm_e (nm_r (nI_1 i) (k _ ?_))))
      show s + _ = cl_A s0 (cl_T th fr to uc dc l) i + cl_T th fr to uc dc l i
      rw [e, show cl_T th fr to uc dc l i = _ from if_neg ht]
theorem cx_e (post : Int32 → Prop) (l : Int32) (h : post (cl_E zc oc th fr to uc dc l)) : wpX_energyOf post (zc, oc, th, fr, to, uc, dc) l := by
  refine loop_0 (fun n i s => wX_energyOf_4 post l zc oc th fr to uc dc n s (nI i)) (fun i s => s = cl_A 0 (cl_P zc oc l) i) 9 0 rfl ?_ ?_
  · intro n s e
    refine br_t cl_x9 (cx_e44 zc oc th fr to uc dc post l s ?_)
    rw [e]
    exact h
  · intro n i s hi e k
    have hc : (nI i).toNatClampNeg = i := nI_clamp (by omega)
    have hv : vp_in (nI i) 9 := vp_in_nI hi (by decide)
    refine br_f (cl_i9 hi) ?_
    by_cases hz : cl_lab l (nI i) = 0
    · refine br_t hz ⟨hv, nm_e (nm_r (nI_1 i) (k _ ?_))⟩
      show s + zc (nI i).toNatClampNeg = cl_A 0 (cl_P zc oc l) i + cl_P zc oc l i
      rw [e, hc, show cl_P zc oc l i = zc i from if_pos hz]
    · refine br_f hz ⟨hv, nm_e (nm_r (nI_1 i) (k _ ?_))⟩
      show s + oc (nI i).toNatClampNeg = cl_A 0 (cl_P zc oc l) i + cl_P zc oc l i
      rw [e, hc, show cl_P zc oc l i = oc i from if_neg hz]
theorem cy_90 (post : Int32 → Prop) (J : Int32 → Int32 → Prop) (l s a b : Int32) {i : Nat} (hi : i < 16) (ht : ¬ th i = 0) (h1 : a ≤ b → J s (nI (i + 1))) (h2 : ¬ a ≤ b → J (s + dc i) (nI (i + 1))) : wY_energy_90 post J l s (nI i) a b cs th fr to uc dc := by
  have hc : (nI i).toNatClampNeg = i := nI_clamp (by omega)
  have hv : vp_in (nI i) 16 := vp_in_nI hi (by decide)
  unfold wY_energy_90
  rw [hc, nI_1 i]
  exact ⟨hv, br_f ht (br_c (fun g => nm_e (h1 g)) (fun g => ⟨hv, nm_e (nm_e (h2 g))⟩))⟩
theorem cy_tie (post : Int32 → Prop) (J : Int32 → Int32 → Prop) (l s a b : Int32) {i : Nat} (hi : i < 16) (ha : a = nI 0 ∨ a = nI 1) (hb : b = nI 0 ∨ b = nI 1)
    (h : J (s + (if th i = 0 then 0 else cl_V a b (uc i) (dc i))) (nI (i + 1))) :
    ((th (nI i).toNatClampNeg = 0 → wY_energy_90 post J l s (nI i) a b cs th fr to uc dc) ∧ (¬ th (nI i).toNatClampNeg = 0 → ((b ≤ a → wY_energy_90 post J l s (nI i) a b cs th fr to uc dc) ∧ (¬ b ≤ a → (vp_in (nI i) 16 ∧ (∀ y : Int32, y = s + uc (nI i).toNatClampNeg → wY_energy_90 post J l y (nI i) a b cs th fr to uc dc)))))) := by
  have hc : (nI i).toNatClampNeg = i := nI_clamp (by omega)
  have hv : vp_in (nI i) 16 := vp_in_nI hi (by decide)
  rw [hc]
  by_cases ht : th i = 0
  · rw [if_pos ht, Int32.add_zero] at h
    refine br_t ht ?_
    unfold wY_energy_90
    rw [hc, nI_1 i]
    exact ⟨hv, br_t ht (nm_e h)⟩
  · rw [if_neg ht] at h
    refine br_f ht ?_
    rcases ha with rfl | rfl <;> rcases hb with rfl | rfl
    · rw [show cl_V (nI 0) (nI 0) (uc i) (dc i) = 0 from if_pos rfl, Int32.add_zero] at h
      exact br_t cl_l00 (cy_90 th fr to uc dc cs post J l s _ _ hi ht (fun _ => h) (fun g => absurd cl_l00 g))
    · rw [show cl_V (nI 0) (nI 1) (uc i) (dc i) = uc i from (if_neg cl_n01).trans (if_pos nI_0)] at h
      exact br_f cl_l10 ⟨hv, nm_e (cy_90 th fr to uc dc cs post J l _ _ _ hi ht (fun _ => h) (fun g => absurd cl_l01 g))⟩
    · rw [show cl_V (nI 1) (nI 0) (uc i) (dc i) = dc i from (if_neg cl_n10).trans (if_neg cl_1ne)] at h
      exact br_t cl_l01 (cy_90 th fr to uc dc cs post J l s _ _ hi ht (fun g => absurd g cl_l10) (fun _ => h))
    · rw [show cl_V (nI 1) (nI 1) (uc i) (dc i) = 0 from if_pos rfl, Int32.add_zero] at h
      exact br_t cl_l11 (cy_90 th fr to uc dc cs post J l s _ _ hi ht (fun _ => h) (fun g => absurd cl_l11 g))
theorem cy_e35 (post : Int32 → Prop) (l s0 : Int32) (h : post (cl_A s0 (cl_T th fr to uc dc l) 16)) : ∃ n, wY_energy_35 post l cs th fr to uc dc n s0 0 := by
  refine loop_0 (fun n i s => wY_energy_35 post l cs th fr to uc dc n s (nI i)) (fun i s => s = cl_A s0 (cl_T th fr to uc dc l) i) 16 s0 rfl ?_ ?_
  · intro n s e
    exact br_t cl_x16 (e ▸ h)
  · intro n i s hi e k
    have hc : (nI i).toNatClampNeg = i := nI_clamp (by omega)
    have hv : vp_in (nI i) 16 := vp_in_nI hi (by decide)
    refine br_f (cl_i16 hi) ⟨hv, ⟨hv, ⟨hv, cy_tie th fr to uc dc cs post _ l s _ _ hi (cl_lab01 l _) (cl_lab01 l _) (k _ ?_)⟩⟩⟩
    show s + (if th i = 0 then 0 else cl_V (cl_lab l (fr (nI i).toNatClampNeg)) (cl_lab l (to (nI i).toNatClampNeg)) (uc i) (dc i)) = cl_A s0 (cl_T th fr to uc dc l) i + cl_T th fr to uc dc l i
    rw [e, hc]
    rfl
theorem cy_ix0 {i : Nat} {r : Int32} (h : r = nI 0) : 2 * nI i + r = nI (2 * i) := by
  rw [h, show (2 : Int32) = nI 2 by decide +kernel, pk_mul, nI_add, Nat.add_zero]
theorem cy_ix1 {i : Nat} {r : Int32} (h : r = nI 1) : 2 * nI i + r = nI (2 * i + 1) := by
  rw [h, show (2 : Int32) = nI 2 by decide +kernel, pk_mul, nI_add]
theorem cy_e (hcs : ∀ p, p < 9 → cs (2 * p) = zc p ∧ cs (2 * p + 1) = oc p) (post : Int32 → Prop) (l : Int32) (h : post (cl_E zc oc th fr to uc dc l)) : wpY_energy post (cs, th, fr, to, uc, dc) l := by
  refine loop_0 (fun n i s => wY_energy_4 post l cs th fr to uc dc n s (nI i)) (fun i s => s = cl_A 0 (cl_P zc oc l) i) 9 0 rfl ?_ ?_
  · intro n s e
    refine br_t cl_x9 (cy_e35 th fr to uc dc cs post l s ?_)
    rw [e]
    exact h
  · intro n i s hi e k
    refine br_f (cl_i9 hi) ?_
    rcases cl_lab01 l (nI i) with hz | hz
    · have ev : 2 * nI i + cl_lab l (nI i) = nI (2 * i) := cy_ix0 hz
      refine ⟨?_, nm_e (nm_r (nI_1 i) (k _ ?_))⟩
      · show vp_in (2 * nI i + cl_lab l (nI i)) 18
        rw [ev]
        exact vp_in_nI (by omega) (by decide)
      · show s + cs (2 * nI i + cl_lab l (nI i)).toNatClampNeg = cl_A 0 (cl_P zc oc l) i + cl_P zc oc l i
        rw [e, ev, nI_clamp (by omega), (hcs i hi).1, show cl_P zc oc l i = zc i from if_pos (hz.trans nI_0)]
    · have ev : 2 * nI i + cl_lab l (nI i) = nI (2 * i + 1) := cy_ix1 hz
      refine ⟨?_, nm_e (nm_r (nI_1 i) (k _ ?_))⟩
      · show vp_in (2 * nI i + cl_lab l (nI i)) 18
        rw [ev]
        exact vp_in_nI (by omega) (by decide)
      · show s + cs (2 * nI i + cl_lab l (nI i)).toNatClampNeg = cl_A 0 (cl_P zc oc l) i + cl_P zc oc l i
        rw [e, ev, nI_clamp (by omega), (hcs i hi).2, show cl_P zc oc l i = oc i from if_neg (fun g => cl_1ne (hz.symm.trans g))]
end
end
section
section
variable (zc oc th fr to uc dc cs : Nat → Int32)
/-- the energy of labelling number i -/
def cl_N (i : Nat) : Int32 := cl_E zc oc th fr to uc dc (nI i)
def cl_q1 (_ : Nat) : Bool := true
/-- the least energy -/
def cl_best : Int32 := cl_W (cl_N zc oc th fr to uc dc) cl_q1 2501 512
theorem cx_le (post : Int32 → Prop) (h : post (cl_best zc oc th fr to uc dc)) : wpX_leastEnergy post (zc, oc, th, fr, to, uc, dc) := by
  refine loop_0 (fun n i s => wX_leastEnergy_6 post zc oc th fr to uc dc n s (nI i)) (fun i s => s = cl_W (cl_N zc oc th fr to uc dc) cl_q1 2501 i) 512 2501 rfl ?_ ?_
  · intro n s e
    exact br_t cl_x512 (e ▸ h)
  · intro n i s hi e k
    refine br_f (cl_i512 hi) (cx_e zc oc th fr to uc dc _ (nI i) ?_)
    refine br_c (fun g => nm_r (nI_1 i) (k s ?_)) (fun g => nm_r (nI_1 i) (k _ ?_))
    · rw [e] at g ⊢
      exact (cl_Wle rfl g).symm
    · rw [e] at g
      exact (cl_Wgt rfl g).symm
theorem cy_le (hcs : ∀ p, p < 9 → cs (2 * p) = zc p ∧ cs (2 * p + 1) = oc p) (hb : ∀ i, ¬ (2501 : Int32) ≤ cl_N zc oc th fr to uc dc i) (post : Int32 → Prop) (h : post (cl_best zc oc th fr to uc dc)) : wpY_least post (cs, th, fr, to, uc, dc) := by
  refine cy_e zc oc th fr to uc dc cs hcs _ 0 ?_
  refine pk_loop (fun n i s => wY_least_8 post cs th fr to uc dc n s (nI i)) (fun i s => s = cl_W (cl_N zc oc th fr to uc dc) cl_q1 2501 i) 512 1 _ (by decide) ?_ ?_ ?_
  · exact (cl_Wgt (E := cl_N zc oc th fr to uc dc) (q := cl_q1) (b := 2501) (n := 0) rfl (hb 0)).symm
  · intro n s e
    exact br_t cl_x512 (e ▸ h)
  · intro n i s hi e k
    refine br_f (cl_i512 hi) (cy_e zc oc th fr to uc dc cs hcs _ (nI i) ?_)
    refine br_c (fun g => nm_r (nI_1 i) (k s ?_)) (fun g => nm_r (nI_1 i) (k _ ?_))
    · rw [e] at g ⊢
      exact (cl_Wle rfl g).symm
    · rw [e] at g
      exact (cl_Wgt rfl g).symm
theorem cx_lo (post : Int32 → Prop) (b : Int32) (h : post (cl_L (cl_N zc oc th fr to uc dc) b 512)) : ∃ n, wX_lower_11 post b zc oc th fr to uc dc n 511 0 := by
  refine loop_0 (fun n i s => wX_lower_11 post b zc oc th fr to uc dc n s (nI i)) (fun i s => s = cl_L (cl_N zc oc th fr to uc dc) b i) 512 511 rfl ?_ ?_
  · intro n s e
    exact br_t cl_x512 (e ▸ h)
  · intro n i s hi e k
    refine br_f (cl_i512 hi) (cx_e zc oc th fr to uc dc _ (nI i) ?_)
    refine br_c (fun g => nm_e (nm_r (nI_1 i) (k _ ?_))) (fun g => nm_r (nI_1 i) (k s ?_))
    · rw [e]
      exact (if_pos g).symm
    · rw [e]
      exact (if_neg g).symm
theorem cy_lo (hcs : ∀ p, p < 9 → cs (2 * p) = zc p ∧ cs (2 * p + 1) = oc p) (post : Int32 → Prop) (b : Int32) (h : post (cl_L (cl_N zc oc th fr to uc dc) b 512)) : ∃ n, wY_lower_11 post b cs th fr to uc dc n 511 0 := by
  refine loop_0 (fun n i s => wY_lower_11 post b cs th fr to uc dc n s (nI i)) (fun i s => s = cl_L (cl_N zc oc th fr to uc dc) b i) 512 511 rfl ?_ ?_
  · intro n s e
    exact br_t cl_x512 (e ▸ h)
  · intro n i s hi e k
    refine br_f (cl_i512 hi) (cy_e zc oc th fr to uc dc cs hcs _ (nI i) ?_)
    refine br_c (fun g => nm_e (nm_r (nI_1 i) (k _ ?_))) (fun g => nm_r (nI_1 i) (k s ?_))
    · rw [e]
      exact (if_pos g).symm
    · rw [e]
      exact (if_neg g).symm
theorem cx_up (post : Int32 → Prop) (b : Int32) (h : post (cl_U (cl_N zc oc th fr to uc dc) b 512)) : ∃ n, wX_upper_9 post b zc oc th fr to uc dc n 0 0 := by
  refine loop_0 (fun n i s => wX_upper_9 post b zc oc th fr to uc dc n s (nI i)) (fun i s => s = cl_U (cl_N zc oc th fr to uc dc) b i) 512 0 rfl ?_ ?_
  · intro n s e
    exact br_t cl_x512 (e ▸ h)
  · intro n i s hi e k
    refine br_f (cl_i512 hi) (cx_e zc oc th fr to uc dc _ (nI i) ?_)
    refine br_c (fun g => nm_e (nm_r (nI_1 i) (k _ ?_))) (fun g => nm_r (nI_1 i) (k s ?_))
    · rw [e]
      exact (if_pos g).symm
    · rw [e]
      exact (if_neg g).symm
theorem cy_up (hcs : ∀ p, p < 9 → cs (2 * p) = zc p ∧ cs (2 * p + 1) = oc p) (post : Int32 → Prop) (b : Int32) (h : post (cl_U (cl_N zc oc th fr to uc dc) b 512)) : ∃ n, wY_upper_9 post b cs th fr to uc dc n 0 0 := by
  refine loop_0 (fun n i s => wY_upper_9 post b cs th fr to uc dc n s (nI i)) (fun i s => s = cl_U (cl_N zc oc th fr to uc dc) b i) 512 0 rfl ?_ ?_
  · intro n s e
    exact br_t cl_x512 (e ▸ h)
  · intro n i s hi e k
    refine br_f (cl_i512 hi) (cy_e zc oc th fr to uc dc cs hcs _ (nI i) ?_)
    refine br_c (fun g => nm_e (nm_r (nI_1 i) (k _ ?_))) (fun g => nm_r (nI_1 i) (k s ?_))
    · rw [e]
      exact (if_pos g).symm
    · rw [e]
      exact (if_neg g).symm
/-- labelling i gives place p the label b -/
def cl_qw (p b : Int32) (i : Nat) : Bool := decide (cl_lab (nI i) p = b)
/-- labelling i gives the two places different labels -/
def cl_qa (p p' : Int32) (i : Nat) : Bool := decide (¬ cl_lab (nI i) p = cl_lab (nI i) p')
theorem cx_wi (post : Int32 → Prop) (p b : Int32) (h : post (cl_W (cl_N zc oc th fr to uc dc) (cl_qw p b) 2501 512)) : ∃ n, wX_with_21 post p b zc oc th fr to uc dc n 2501 0 := by
  refine loop_0 (fun n i s => wX_with_21 post p b zc oc th fr to uc dc n s (nI i)) (fun i s => s = cl_W (cl_N zc oc th fr to uc dc) (cl_qw p b) 2501 i) 512 2501 rfl ?_ ?_
  · intro n s e
    exact br_t cl_x512 (e ▸ h)
  · intro n i s hi e k
    refine br_f (cl_i512 hi) ?_
    by_cases hq : cl_lab (nI i) p = b
    · have q : cl_qw p b i = true := decide_eq_true hq
      refine br_t hq (cx_e zc oc th fr to uc dc _ (nI i) ?_)
      refine br_c (fun g => nm_r (nI_1 i) (k s ?_)) (fun g => nm_r (nI_1 i) (k _ ?_))
      · rw [e] at g ⊢
        exact (cl_Wle q g).symm
      · rw [e] at g
        exact (cl_Wgt q g).symm
    · have q : ¬ cl_qw p b i = true := fun z => hq (of_decide_eq_true z)
      refine br_f hq (nm_r (nI_1 i) (k s ?_))
      rw [e]
      exact (cl_Wno q).symm
theorem cy_wi (hcs : ∀ p, p < 9 → cs (2 * p) = zc p ∧ cs (2 * p + 1) = oc p) (post : Int32 → Prop) (p b : Int32) (h : post (cl_W (cl_N zc oc th fr to uc dc) (cl_qw p (b &&& 1)) 1000000 512)) : ∃ n, wY_with_15 post p b cs th fr to uc dc n 1000000 0 := by
  refine loop_0 (fun n i s => wY_with_15 post p b cs th fr to uc dc n s (nI i)) (fun i s => s = cl_W (cl_N zc oc th fr to uc dc) (cl_qw p (b &&& 1)) 1000000 i) 512 1000000 rfl ?_ ?_
  · intro n s e
    exact br_t cl_x512 (e ▸ h)
  · intro n i s hi e k
    refine br_f (cl_i512 hi) (cy_e zc oc th fr to uc dc cs hcs _ (nI i) ?_)
    by_cases hq : cl_lab (nI i) p = (b &&& 1)
    · have q : cl_qw p (b &&& 1) i = true := decide_eq_true hq
      refine br_t hq ?_
      refine br_c (fun g => nm_r (nI_1 i) (k s ?_)) (fun g => nm_r (nI_1 i) (k _ ?_))
      · rw [e] at g ⊢
        exact (cl_Wle q g).symm
      · rw [e] at g
        exact (cl_Wgt q g).symm
    · have q : ¬ cl_qw p (b &&& 1) i = true := fun z => hq (of_decide_eq_true z)
      refine br_f hq (nm_r (nI_1 i) (k s ?_))
      rw [e]
      exact (cl_Wno q).symm
theorem cx_ap (post : Int32 → Prop) (p p' : Int32) (h : post (cl_W (cl_N zc oc th fr to uc dc) (cl_qa p p') 2501 512)) : ∃ n, wX_apart_17 post p p' zc oc th fr to uc dc n 2501 0 := by
  refine loop_0 (fun n i s => wX_apart_17 post p p' zc oc th fr to uc dc n s (nI i)) (fun i s => s = cl_W (cl_N zc oc th fr to uc dc) (cl_qa p p') 2501 i) 512 2501 rfl ?_ ?_
  · intro n s e
    exact br_t cl_x512 (e ▸ h)
  · intro n i s hi e k
    refine br_f (cl_i512 hi) ?_
    by_cases hq : cl_lab (nI i) p = cl_lab (nI i) p'
    · have q : ¬ cl_qa p p' i = true := fun z => of_decide_eq_true z hq
      refine br_t hq (nm_r (nI_1 i) (k s ?_))
      rw [e]
      exact (cl_Wno q).symm
    · have q : cl_qa p p' i = true := decide_eq_true hq
      refine br_f hq (cx_e zc oc th fr to uc dc _ (nI i) ?_)
      refine br_c (fun g => nm_r (nI_1 i) (k s ?_)) (fun g => nm_r (nI_1 i) (k _ ?_))
      · rw [e] at g ⊢
        exact (cl_Wle q g).symm
      · rw [e] at g
        exact (cl_Wgt q g).symm
theorem cy_ap (hcs : ∀ p, p < 9 → cs (2 * p) = zc p ∧ cs (2 * p + 1) = oc p) (post : Int32 → Prop) (p p' : Int32) (h : post (cl_W (cl_N zc oc th fr to uc dc) (cl_qa p p') 1000000 512)) : ∃ n, wY_apart_27 post p p' cs th fr to uc dc n 1000000 0 := by
  refine loop_0 (fun n i s => wY_apart_27 post p p' cs th fr to uc dc n s (nI i)) (fun i s => s = cl_W (cl_N zc oc th fr to uc dc) (cl_qa p p') 1000000 i) 512 1000000 rfl ?_ ?_
  · intro n s e
    exact br_t cl_x512 (e ▸ h)
  · intro n i s hi e k
    refine br_f (cl_i512 hi) (cy_e zc oc th fr to uc dc cs hcs _ (nI i) ?_)
    by_cases hq : cl_lab (nI i) p = cl_lab (nI i) p'
    · have q : ¬ cl_qa p p' i = true := fun z => of_decide_eq_true z hq
      refine br_t hq (nm_r (nI_1 i) (k s ?_))
      rw [e]
      exact (cl_Wno q).symm
    · have q : cl_qa p p' i = true := decide_eq_true hq
      refine br_f hq ?_
      refine br_c (fun g => nm_r (nI_1 i) (k s ?_)) (fun g => nm_r (nI_1 i) (k _ ?_))
      · rw [e] at g ⊢
        exact (cl_Wle q g).symm
      · rw [e] at g
        exact (cl_Wgt q g).symm
end
end
section
theorem cx_pt {post : Int32 → Prop} {j : Nat} (hj : j < 9) (h : post 1) : wpX_isPlace post (nI j) := br_f (nI_pos (by omega)) (br_f (cl_i9 hj) h)
theorem cx_pf {post : Int32 → Prop} {x : Int32} (hx : x < 0 ∨ ¬ x < 0 ∧ nI 9 ≤ x) (h : post 0) : wpX_isPlace post x := by
  rcases hx with g | ⟨g, g'⟩
  · exact br_t g h
  · exact br_f g (br_t g' h)
theorem cl_8 {j : Nat} (hj : j < 9) : nI j ≤ (8 : Int32) := by
  rw [show (8 : Int32) = nI 8 by decide +kernel]; exact nI_le (by omega) (by decide)
theorem cl_up {x : Int32} (n : Nat) (hn : n + 1 < 2 ^ 31) (h0 : ¬ x < 0) (h : nI (n + 1) ≤ x) : ¬ x ≤ nI n := by
  obtain ⟨j, hj, rfl⟩ := nI_of h0
  rw [nI_leI hn hj] at h
  exact nI_ge (by omega) hj
theorem cy_pt {post : Int32 → Prop} {j : Nat} (hj : j < 9) (h : post 0) : wpY_bad post (nI j) := br_f (nI_pos (by omega)) (br_t (cl_8 hj) h)
theorem cy_pf {post : Int32 → Prop} {x : Int32} (hx : x < 0 ∨ ¬ x < 0 ∧ nI 9 ≤ x) (h : post 1) : wpY_bad post x := by
  rcases hx with g | ⟨g, g'⟩
  · exact br_t g h
  · exact br_f g (br_f (cl_up 8 (by decide) g g') h)
theorem cl_100 {j : Nat} (hj : j < 101) : nI j ≤ (100 : Int32) := by
  rw [show (100 : Int32) = nI 100 by decide +kernel]; exact nI_le (by omega) (by decide)
theorem cx_ct {post : Int32 → Prop} {j : Nat} (hj : j < 101) (h : post 1) : wpX_isCost post (nI j) := br_f (nI_pos (by omega)) (br_f (Int32.not_lt.mpr (cl_100 hj)) h)
theorem cx_cf {post : Int32 → Prop} {x : Int32} (hx : x < 0 ∨ ¬ x < 0 ∧ nI 101 ≤ x) (h : post 0) : wpX_isCost post x := by
  rcases hx with g | ⟨g, g'⟩
  · exact br_t g h
  · exact br_f g (br_t (Int32.not_le.mp (cl_up 100 (by decide) g g')) h)
theorem cy_ct {post : Int32 → Prop} {j : Nat} (hj : j < 101) (h : post 0) : wpY_badCost post (nI j) := br_f (nI_pos (by omega)) (br_t (cl_100 hj) h)
theorem cy_cf {post : Int32 → Prop} {x : Int32} (hx : x < 0 ∨ ¬ x < 0 ∧ nI 101 ≤ x) (h : post 1) : wpY_badCost post x := by
  rcases hx with g | ⟨g, g'⟩
  · exact br_t g h
  · exact br_f g (br_f (cl_up 100 (by decide) g g') h)
theorem cl_15 {j : Nat} (hj : j < 16) : nI j ≤ (15 : Int32) := by
  rw [show (15 : Int32) = nI 15 by decide +kernel]; exact nI_le (by omega) (by decide)
theorem cl_15n {x : Int32} (g : ¬ x < 0) (g' : nI 16 ≤ x) : ¬ x ≤ (15 : Int32) := cl_up 15 (by decide) g g'
theorem cx_tt {post : Int32 → Prop} {j : Nat} (hj : j < 16) (h : post 1) : wpX_isTie post (nI j) := br_f (nI_pos (by omega)) (br_f (cl_i16 hj) h)
theorem cx_tf {post : Int32 → Prop} {x : Int32} (hx : x < 0 ∨ ¬ x < 0 ∧ nI 16 ≤ x) (h : post 0) : wpX_isTie post x := by
  rcases hx with g | ⟨g, g'⟩
  · exact br_t g h
  · exact br_f g (br_t g' h)
theorem cx_2t {post : Int32 → Prop} {i j : Nat} (hi : i < 9) (hj : j < 9) (hn : ¬ nI i = nI j) (h : post 1) : wpX_areTwoPlaces post (nI i) (nI j) := by
  unfold wpX_areTwoPlaces
  exact cx_pt hi (br_f cl_r10 (cx_pt hj (br_f cl_r10 (br_f hn h))))
theorem cx_2a {post : Int32 → Prop} {x y : Int32} (hx : x < 0 ∨ ¬ x < 0 ∧ nI 9 ≤ x) (h : post 0) : wpX_areTwoPlaces post x y := by
  unfold wpX_areTwoPlaces
  exact cx_pf hx (br_t rfl h)
theorem cx_2b {post : Int32 → Prop} {i : Nat} {y : Int32} (hi : i < 9) (hy : y < 0 ∨ ¬ y < 0 ∧ nI 9 ≤ y) (h : post 0) : wpX_areTwoPlaces post (nI i) y := by
  unfold wpX_areTwoPlaces
  exact cx_pt hi (br_f cl_r10 (cx_pf hy (br_t rfl h)))
theorem cx_2c {post : Int32 → Prop} {i j : Nat} (hi : i < 9) (hj : j < 9) (hn : nI i = nI j) (h : post 0) : wpX_areTwoPlaces post (nI i) (nI j) := by
  unfold wpX_areTwoPlaces
  exact cx_pt hi (br_f cl_r10 (cx_pt hj (br_f cl_r10 (br_t hn h))))
def cl_R (zc oc fr to uc dc cs : Nat → Int32) : Prop := (∀ p, p < 9 → cs (2 * p) = zc p ∧ cs (2 * p + 1) = oc p) ∧ cl_Ok2 zc oc 9 ∧ cl_Ok2 uc dc 16 ∧ cl_OkP fr to
theorem cl_R0 : cl_R (fun _ => 0) (fun _ => 0) (fun _ => 0) (fun _ => 0) (fun _ => 0) (fun _ => 0) (fun _ => 0) :=
  ⟨fun _ _ => ⟨rfl, rfl⟩, fun _ _ => ⟨⟨0, by omega, nI_0.symm⟩, ⟨0, by omega, nI_0.symm⟩⟩, fun _ _ => ⟨⟨0, by omega, nI_0.symm⟩, ⟨0, by omega, nI_0.symm⟩⟩, fun _ _ => ⟨⟨0, by omega, nI_0.symm⟩, ⟨0, by omega, nI_0.symm⟩⟩⟩
theorem cl_Ok2u {zc oc : Nat → Int32} {n p a b : Nat} (h : cl_Ok2 zc oc n) (ha : a < 101) (hb : b < 101) : cl_Ok2 (upd zc p (nI a)) (upd oc p (nI b)) n := by
  intro q hq
  by_cases e : q = p
  · rw [e, cu_s, cu_s]
    exact ⟨⟨a, by omega, rfl⟩, ⟨b, by omega, rfl⟩⟩
  · rw [cu_n e, cu_n e]
    exact h q hq
theorem cl_OkPu {fr to : Nat → Int32} {p a b : Nat} (h : cl_OkP fr to) (ha : a < 9) (hb : b < 9) : cl_OkP (upd fr p (nI a)) (upd to p (nI b)) := by
  intro q hq
  by_cases e : q = p
  · rw [e, cu_s, cu_s]
    exact ⟨⟨a, by omega, rfl⟩, ⟨b, by omega, rfl⟩⟩
  · rw [cu_n e, cu_n e]
    exact h q hq
theorem cl_Rc {zc oc fr to uc dc cs : Nat → Int32} {p a b : Nat} (h : cl_R zc oc fr to uc dc cs) (ha : a < 101) (hb : b < 101) : cl_R (upd zc p (nI a)) (upd oc p (nI b)) fr to uc dc (upd (upd cs (2 * p) (nI a)) (2 * p + 1) (nI b)) := by
  refine ⟨fun q hq => ?_, cl_Ok2u h.2.1 ha hb, h.2.2⟩
  by_cases e : q = p
  · rw [e, cu_s, cu_s, cu_s, cu_n (by omega), cu_s]
    exact ⟨rfl, rfl⟩
  · rw [cu_n e, cu_n e, cu_n (by omega), cu_n (by omega), cu_n (by omega), cu_n (by omega)]
    exact h.1 q hq
theorem cl_Rt {zc oc fr to uc dc cs : Nat → Int32} {t i j a b : Nat} (h : cl_R zc oc fr to uc dc cs) (hi : i < 9) (hj : j < 9) (ha : a < 101) (hb : b < 101) : cl_R zc oc (upd fr t (nI i)) (upd to t (nI j)) (upd uc t (nI a)) (upd dc t (nI b)) cs :=
  ⟨h.1, h.2.1, cl_Ok2u h.2.2.1 ha hb, cl_OkPu h.2.2.2 hi hj⟩
theorem cl_Rb1 {zc oc th fr to uc dc cs : Nat → Int32} (h : cl_R zc oc fr to uc dc cs) (i : Nat) : ¬ (2501 : Int32) ≤ cl_N zc oc th fr to uc dc i := by
  obtain ⟨e, he, q⟩ := cl_Eb (th := th) (fr := fr) (to := to) h.2.1 h.2.2.1 (nI i)
  unfold cl_N
  rw [q]
  exact cl_b1 he
theorem cl_Rb2 {zc oc th fr to uc dc cs : Nat → Int32} (h : cl_R zc oc fr to uc dc cs) (i : Nat) : ¬ (1000000 : Int32) ≤ cl_N zc oc th fr to uc dc i := by
  obtain ⟨e, he, q⟩ := cl_Eb (th := th) (fr := fr) (to := to) h.2.1 h.2.2.1 (nI i)
  unfold cl_N
  rw [q]
  exact cl_b2 he
theorem cl_wW {j : Nat} (hj : j < 9) (b : Int32) : ∃ m, m < 512 ∧ cl_qw (nI j) (b &&& 1) m = true := by
  rcases cl_bit b with h | h
  · exact ⟨0, by decide, decide_eq_true ((cl_wit0 j hj).1.trans h.symm)⟩
  · exact ⟨2 ^ j, cl_pw j hj, decide_eq_true ((cl_wit0 j hj).2.trans h.symm)⟩
theorem cl_wA {i j : Nat} (hi : i < 9) (hj : j < 9) (hn : ¬ nI i = nI j) : ∃ m, m < 512 ∧ cl_qa (nI i) (nI j) m = true :=
  ⟨2 ^ i, cl_pw i hi, decide_eq_true (cl_wit1 i hi j hj (fun e => hn (congrArg nI e)))⟩
end
section
/-- both keep the ties in the same arrays, and the reference keeps place p's costs in its cells 2 p and 2 p + 1; costs lie from 0 to 100, ends of ties from 0 to 8 -/
def i_Rel (_ : Nat) (u : SX) (v : SY) : Prop := ∃ zc oc th fr to uc dc cs : Nat → Int32, u = (zc, oc, th, fr, to, uc, dc) ∧ v = (cs, th, fr, to, uc, dc) ∧ cl_R zc oc fr to uc dc cs
theorem i_up {k : Nat} {u : SX} {v : SY} (h : i_Rel k u v) : i_Rel (k + 6) u v := h
theorem i_vc0 : wpX_init (fun u => wpY_init (fun v => i_Rel 0 u v)) := ⟨_, _, _, _, _, _, _, _, rfl, rfl, cl_R0⟩
theorem i_vc_cost {k : Nat} {u : SX} {v : SY} (I : i_Rel k u v) (hk : k + 6 ≤ 3072) (v1 : Int32) (v2 : Int32) (v3 : Int32) : wpX_cost (fun r u' => wpY_cost (fun r' v' => r' = r ∧ i_Rel (k + 6) u' v') v v1 v2 v3) u v1 v2 v3 := by
  obtain ⟨zc, oc, th, fr, to, uc, dc, cs, rfl, rfl, R⟩ := I
  have J : i_Rel (k + 6) (zc, oc, th, fr, to, uc, dc) (cs, th, fr, to, uc, dc) := ⟨zc, oc, th, fr, to, uc, dc, cs, rfl, rfl, R⟩
  unfold wpX_cost wpY_cost
  dsimp only
  rcases cl_ix v1 9 (by decide) with ⟨p, hp, rfl⟩ | h1
  · rcases cl_ix v2 101 (by decide) with ⟨a, ha, rfl⟩ | h2
    · rcases cl_ix v3 101 (by decide) with ⟨b, hb, rfl⟩ | h3
      · have hv : vp_in (nI p) 9 := vp_in_nI hp (by decide)
        have e0 : (2 : Int32) * nI p = nI (2 * p) := by rw [show (2 : Int32) = nI 2 by decide +kernel, pk_mul]
        refine cx_pt hp (br_f cl_r10 (cx_ct ha (br_f cl_r10 (cx_ct hb (br_f cl_r10 ?_)))))
        refine ⟨hv, nm_e ⟨hv, nm_e ?_⟩⟩
        refine cy_pt hp (br_t rfl (cy_ct ha (br_t rfl (cy_ct hb (br_t rfl ?_)))))
        rw [e0, nI_1 (2 * p), nI_clamp (n := 2 * p) (by omega), nI_clamp (n := 2 * p + 1) (by omega), nI_clamp (n := p) (by omega)]
        exact ⟨vp_in_nI (by omega) (by decide), nm_e ⟨vp_in_nI (by omega) (by decide), nm_e ⟨rfl, _, _, _, _, _, _, _, _, rfl, rfl, cl_Rc R ha hb⟩⟩⟩
      · exact cx_pt hp (br_f cl_r10 (cx_ct ha (br_f cl_r10 (cx_cf h3 (br_t rfl (cy_pt hp (br_t rfl (cy_ct ha (br_t rfl (cy_cf h3 (br_f cl_r10 ⟨rfl, J⟩)))))))))))
    · exact cx_pt hp (br_f cl_r10 (cx_cf h2 (br_t rfl (cy_pt hp (br_t rfl (cy_cf h2 (br_f cl_r10 ⟨rfl, J⟩)))))))
  · exact cx_pf h1 (br_t rfl (cy_pf h1 (br_f cl_r10 ⟨rfl, J⟩)))
theorem i_vc_tie {k : Nat} {u : SX} {v : SY} (I : i_Rel k u v) (hk : k + 6 ≤ 3072) (v1 : Int32) (v2 : Int32) (v3 : Int32) (v4 : Int32) (v5 : Int32) : wpX_tie (fun r u' => wpY_tie (fun r' v' => r' = r ∧ i_Rel (k + 6) u' v') v v1 v2 v3 v4 v5) u v1 v2 v3 v4 v5 := by
  obtain ⟨zc, oc, th, fr, to, uc, dc, cs, rfl, rfl, R⟩ := I
  have J : i_Rel (k + 6) (zc, oc, th, fr, to, uc, dc) (cs, th, fr, to, uc, dc) := ⟨zc, oc, th, fr, to, uc, dc, cs, rfl, rfl, R⟩
  unfold wpX_tie wpY_tie
  dsimp only
  rcases cl_ix v1 16 (by decide) with ⟨t, ht, rfl⟩ | h1
  · have g0 : ¬ nI t < 0 := nI_pos (by omega)
    have g1 : ¬ (15 : Int32) < nI t := Int32.not_lt.mpr (cl_15 ht)
    refine cx_tt ht (br_f cl_r10 ?_)
    rcases cl_ix v2 9 (by decide) with ⟨i, hi, rfl⟩ | h2
    · rcases cl_ix v3 9 (by decide) with ⟨j, hj, rfl⟩ | h3
      · by_cases hn : nI i = nI j
        · exact cx_2c hi hj hn (br_t rfl (br_f g0 (br_f g1 (cy_pt hi (br_t rfl (cy_pt hj (br_t rfl (br_t hn ⟨rfl, J⟩))))))))
        · refine cx_2t hi hj hn (br_f cl_r10 ?_)
          rcases cl_ix v4 101 (by decide) with ⟨a, ha, rfl⟩ | h4
          · rcases cl_ix v5 101 (by decide) with ⟨b, hb, rfl⟩ | h5
            · have hv : vp_in (nI t) 16 := vp_in_nI ht (by decide)
              refine cx_ct ha (br_f cl_r10 (cx_ct hb (br_f cl_r10 ?_)))
              refine ⟨hv, nm_e ⟨hv, nm_e ⟨hv, nm_e ⟨hv, nm_e ⟨hv, nm_e ?_⟩⟩⟩⟩⟩
              refine br_f g0 (br_f g1 (cy_pt hi (br_t rfl (cy_pt hj (br_t rfl (br_f hn (cy_ct ha (br_t rfl (cy_ct hb (br_t rfl ?_))))))))))
              exact ⟨hv, nm_e ⟨hv, nm_e ⟨hv, nm_e ⟨hv, nm_e ⟨hv, nm_e ⟨rfl, _, _, _, _, _, _, _, _, rfl, rfl, cl_Rt R hi hj ha hb⟩⟩⟩⟩⟩⟩
            · exact cx_ct ha (br_f cl_r10 (cx_cf h5 (br_t rfl (br_f g0 (br_f g1 (cy_pt hi (br_t rfl (cy_pt hj (br_t rfl (br_f hn (cy_ct ha (br_t rfl (cy_cf h5 (br_f cl_r10 ⟨rfl, J⟩))))))))))))))
          · exact cx_cf h4 (br_t rfl (br_f g0 (br_f g1 (cy_pt hi (br_t rfl (cy_pt hj (br_t rfl (br_f hn (cy_cf h4 (br_f cl_r10 ⟨rfl, J⟩))))))))))
      · exact cx_2b hi h3 (br_t rfl (br_f g0 (br_f g1 (cy_pt hi (br_t rfl (cy_pf h3 (br_f cl_r10 ⟨rfl, J⟩)))))))
    · exact cx_2a h2 (br_t rfl (br_f g0 (br_f g1 (cy_pf h2 (br_f cl_r10 ⟨rfl, J⟩)))))
  · refine cx_tf h1 (br_t rfl ?_)
    rcases h1 with g | ⟨g, g'⟩
    · exact br_t g ⟨rfl, J⟩
    · exact br_f g (br_t (Int32.not_le.mp (cl_15n g g')) ⟨rfl, J⟩)
theorem i_vc_cut {k : Nat} {u : SX} {v : SY} (I : i_Rel k u v) (hk : k + 6 ≤ 3072) (v1 : Int32) : wpX_cut (fun r u' => wpY_cut (fun r' v' => r' = r ∧ i_Rel (k + 6) u' v') v v1) u v1 := by
  obtain ⟨zc, oc, th, fr, to, uc, dc, cs, rfl, rfl, R⟩ := I
  have J : ∀ th', i_Rel (k + 6) (zc, oc, th', fr, to, uc, dc) (cs, th', fr, to, uc, dc) := fun th' => ⟨zc, oc, th', fr, to, uc, dc, cs, rfl, rfl, R⟩
  unfold wpX_cut wpY_cut
  dsimp only
  rcases cl_ix v1 16 (by decide) with ⟨t, ht, rfl⟩ | h1
  · have g0 : ¬ nI t < 0 := nI_pos (by omega)
    have hv : vp_in (nI t) 16 := vp_in_nI ht (by decide)
    refine cx_tt ht (br_f cl_r10 ⟨hv, ?_⟩)
    unfold wX_cut_23
    by_cases hz : th (nI t).toNatClampNeg = 0
    · exact br_t hz ⟨hv, nm_e (br_f g0 (br_t (cl_15 ht) ⟨hv, nm_e ⟨hv, nm_e (br_t hz ⟨rfl, J _⟩)⟩⟩))⟩
    · exact br_f hz ⟨hv, nm_e (br_f g0 (br_t (cl_15 ht) ⟨hv, nm_e ⟨hv, nm_e (br_f hz ⟨rfl, J _⟩)⟩⟩))⟩
  · refine cx_tf h1 (br_t rfl ?_)
    rcases h1 with g | ⟨g, g'⟩
    · exact br_t g ⟨rfl, J _⟩
    · exact br_f g (br_f (cl_15n g g') ⟨rfl, J _⟩)
theorem i_vc_least {k : Nat} {u : SX} {v : SY} (I : i_Rel k u v) (hk : k + 6 ≤ 3072) : wpX_least (fun r => wpY_least (fun r' => r' = r ∧ i_Rel (k + 6) u v) v) u := by
  obtain ⟨zc, oc, th, fr, to, uc, dc, cs, rfl, rfl, R⟩ := I
  have J : i_Rel (k + 6) (zc, oc, th, fr, to, uc, dc) (cs, th, fr, to, uc, dc) := ⟨zc, oc, th, fr, to, uc, dc, cs, rfl, rfl, R⟩
  unfold wpX_least
  dsimp only
  refine cx_le zc oc th fr to uc dc _ ?_
  refine cy_le zc oc th fr to uc dc cs R.1 (cl_Rb1 R) _ ?_
  exact ⟨rfl, J⟩
theorem i_vc_lower {k : Nat} {u : SX} {v : SY} (I : i_Rel k u v) (hk : k + 6 ≤ 3072) : wpX_lower (fun r => wpY_lower (fun r' => r' = r ∧ i_Rel (k + 6) u v) v) u := by
  obtain ⟨zc, oc, th, fr, to, uc, dc, cs, rfl, rfl, R⟩ := I
  have J : i_Rel (k + 6) (zc, oc, th, fr, to, uc, dc) (cs, th, fr, to, uc, dc) := ⟨zc, oc, th, fr, to, uc, dc, cs, rfl, rfl, R⟩
  unfold wpX_lower wpY_lower
  dsimp only
  refine cx_le zc oc th fr to uc dc _ ?_
  refine cx_lo zc oc th fr to uc dc _ _ ?_
  refine cy_le zc oc th fr to uc dc cs R.1 (cl_Rb1 R) _ ?_
  refine cy_lo zc oc th fr to uc dc cs R.1 _ _ ?_
  exact ⟨rfl, J⟩
theorem i_vc_upper {k : Nat} {u : SX} {v : SY} (I : i_Rel k u v) (hk : k + 6 ≤ 3072) : wpX_upper (fun r => wpY_upper (fun r' => r' = r ∧ i_Rel (k + 6) u v) v) u := by
  obtain ⟨zc, oc, th, fr, to, uc, dc, cs, rfl, rfl, R⟩ := I
  have J : i_Rel (k + 6) (zc, oc, th, fr, to, uc, dc) (cs, th, fr, to, uc, dc) := ⟨zc, oc, th, fr, to, uc, dc, cs, rfl, rfl, R⟩
  unfold wpX_upper wpY_upper
  dsimp only
  refine cx_le zc oc th fr to uc dc _ ?_
  refine cx_up zc oc th fr to uc dc _ _ ?_
  refine cy_le zc oc th fr to uc dc cs R.1 (cl_Rb1 R) _ ?_
  refine cy_up zc oc th fr to uc dc cs R.1 _ _ ?_
  exact ⟨rfl, J⟩
theorem i_vc_with {k : Nat} {u : SX} {v : SY} (I : i_Rel k u v) (hk : k + 6 ≤ 3072) (v1 : Int32) (v2 : Int32) : wpX_with (fun r => wpY_with (fun r' => r' = r ∧ i_Rel (k + 6) u v) v v1 v2) u v1 v2 := by
  obtain ⟨zc, oc, th, fr, to, uc, dc, cs, rfl, rfl, R⟩ := I
  have J : i_Rel (k + 6) (zc, oc, th, fr, to, uc, dc) (cs, th, fr, to, uc, dc) := ⟨zc, oc, th, fr, to, uc, dc, cs, rfl, rfl, R⟩
  unfold wpX_with wpY_with
  dsimp only
  rcases cl_ix v1 9 (by decide) with ⟨p, hp, rfl⟩ | h1
  · refine cx_pt hp (br_f cl_r10 (nm_e ?_))
    refine cx_wi zc oc th fr to uc dc _ _ _ ?_
    refine cy_pt hp (br_t rfl ?_)
    refine cy_wi zc oc th fr to uc dc cs R.1 _ _ _ ?_
    exact ⟨(cl_Weq (cl_Rb1 R) (cl_Rb2 R) (cl_wW hp v2)).symm, J⟩
  · exact cx_pf h1 (br_t rfl (cy_pf h1 (br_f cl_r10 ⟨rfl, J⟩)))
theorem i_vc_apart {k : Nat} {u : SX} {v : SY} (I : i_Rel k u v) (hk : k + 6 ≤ 3072) (v1 : Int32) (v2 : Int32) : wpX_apart (fun r => wpY_apart (fun r' => r' = r ∧ i_Rel (k + 6) u v) v v1 v2) u v1 v2 := by
  obtain ⟨zc, oc, th, fr, to, uc, dc, cs, rfl, rfl, R⟩ := I
  have J : i_Rel (k + 6) (zc, oc, th, fr, to, uc, dc) (cs, th, fr, to, uc, dc) := ⟨zc, oc, th, fr, to, uc, dc, cs, rfl, rfl, R⟩
  unfold wpX_apart wpY_apart
  dsimp only
  rcases cl_ix v1 9 (by decide) with ⟨i, hi, rfl⟩ | h1
  · rcases cl_ix v2 9 (by decide) with ⟨j, hj, rfl⟩ | h2
    · by_cases hn : nI i = nI j
      · exact cx_2c hi hj hn (br_t rfl (cy_pt hi (br_t rfl (cy_pt hj (br_t rfl (br_t hn ⟨rfl, J⟩))))))
      · refine cx_2t hi hj hn (br_f cl_r10 ?_)
        refine cx_ap zc oc th fr to uc dc _ _ _ ?_
        refine cy_pt hi (br_t rfl (cy_pt hj (br_t rfl (br_f hn ?_))))
        refine cy_ap zc oc th fr to uc dc cs R.1 _ _ _ ?_
        exact ⟨(cl_Weq (cl_Rb1 R) (cl_Rb2 R) (cl_wA hi hj hn)).symm, J⟩
    · exact cx_2b hi h2 (br_t rfl (cy_pt hi (br_t rfl (cy_pf h2 (br_f cl_r10 ⟨rfl, J⟩)))))
  · exact cx_2a h1 (br_t rfl (cy_pf h1 (br_f cl_r10 ⟨rfl, J⟩)))
theorem i_vc_energy {k : Nat} {u : SX} {v : SY} (I : i_Rel k u v) (hk : k + 6 ≤ 3072) (v1 : Int32) : wpX_energy (fun r => wpY_energy (fun r' => r' = r ∧ i_Rel (k + 6) u v) v v1) u v1 := by
  obtain ⟨zc, oc, th, fr, to, uc, dc, cs, rfl, rfl, R⟩ := I
  have J : i_Rel (k + 6) (zc, oc, th, fr, to, uc, dc) (cs, th, fr, to, uc, dc) := ⟨zc, oc, th, fr, to, uc, dc, cs, rfl, rfl, R⟩
  unfold wpX_energy
  dsimp only
  refine cx_e zc oc th fr to uc dc _ _ ?_
  refine cy_e zc oc th fr to uc dc cs R.1 _ _ ?_
  exact ⟨(cl_Em R.2.2.2 v1).symm, J⟩
end
