/-! The shape of a rule is kept by every step. -/
section LS
variable {sd b0 : Int} {s : pS}
theorem rfin_9 {x i : Int} (h1 : ¬ i = x) (h2 : ¬ (i = s 1 x 3 ∧ s 1 i 0 = 2)) : rfin s x 1 i 9 = s 1 i 9 := by
  unfold rfin
  split
  · simp only [upE]; rw [if_neg (by omega), if_neg (by omega)]
  · split
    · rename_i c d
      have : ¬ i = s 1 x 3 := fun e => h2 ⟨e, by rw [e]; exact d⟩
      simp only [upE]; rw [if_neg (by omega), if_neg (by omega), if_neg (by omega), if_neg (by omega)]
    · simp only [upE]; rw [if_neg (by omega), if_neg (by omega)]
theorem rfin_x {x : Int} (h : ¬ s 1 x 3 = x) : rfin s x 1 x 9 = s 0 0 1 - x := by
  unfold rfin
  split
  · simp [upE]
  · split
    · have : ¬ x = s 1 x 3 := fun e => h e.symm
      simp [upE, this]
    · simp [upE]
theorem rfin_d {x : Int} (h : ¬ s 1 x 3 = -1) (hd : s 1 (s 1 x 3) 0 = 2) : rfin s x 1 (s 1 x 3) 9 = s 0 0 1 - s 1 x 3 := by
  unfold rfin
  rw [if_neg h, if_pos hd]
  simp [upE]
theorem rA_2 {o i : Int} (hop : s 0 0 2 < s 0 0 1) : rA s sd o 2 i 0 = if ¬ s 0 0 2 = -1 ∧ i = s 0 0 2 then s 0 0 1 else s 2 i 0 := by
  have kn := kidn sd
  have e2 : ∀ k l, radd1 (radd0 s o) sd o 2 k l = s 2 k l := fun k l => by rw [radd1_o _ _ (by omega)]; simp [radd0, upE]
  unfold rA
  rw [rcnt_o _ _ (by omega)]
  unfold radd
  by_cases c : s 0 0 2 = -1
  · rw [if_pos c, if_neg (by omega), e2]
  · rw [if_neg c]
    unfold rhang
    by_cases d : i = s 0 0 2
    · simp [upE, d, c]
    · simp [upE, d, e2]
/-- what is known of a state with one item more -/
def oY (sd o : Int) (s y : pS) : Prop := y 0 0 1 = s 0 0 1 + 1 ∧ y 0 0 (kid sd) = s 0 0 (kid sd) + 1 ∧ (∀ i j, ¬ j = 1 → ¬ j = 2 → ¬ j = 10 → ¬ j = 11 → y 1 i j = rA s sd o 1 i j) ∧ (∀ i, y 4 i 0 = if i = s 0 0 1 then s 0 0 (kid sd) else s 4 i 0) ∧ (∀ i, y 2 i 0 = rA s sd o 2 i 0) ∧ (∀ k, k < s 0 0 (kid sd) → y (kid sd) k 2 = s (kid sd) k 2 ∧ y (kid sd) k 0 = s (kid sd) k 0)
theorem oY.tok {o it w a b f l : Int} (hop : s 0 0 2 < s 0 0 1) (hit : it = s 0 0 1) : oY sd o s (rtok (rA s sd o) sd it w a b f l) := by
  have kn := kidn sd
  have k3 := kid3 sd
  have ek : rA s sd o 0 0 (kid sd) = s 0 0 (kid sd) := rA_0 _ (by omega)
  refine ⟨?_, ?_, fun i j _ _ _ _ => ?_, fun i => ?_, fun i => ?_, fun k hk => ?_⟩
  · rw [rtok_o _ _ (by omega) (by omega) (by omega)]; exact rA_1
  · rw [rtok_k, ek]
  · exact rtok_o _ _ (by omega) (by omega) (by omega)
  · rw [rtok_4, ek, rA_t _ _ (by omega), hit]
  · exact rtok_o _ _ (by omega) (by omega) (by omega)
  · have g : ∀ j, j < 6 → rtok (rA s sd o) sd it w a b f l (kid sd) k j = rA s sd o (kid sd) k j := fun j hj => by
      unfold rtok; rw [upE, if_neg (by omega), rput_v hj, if_neg (by rw [ek]; omega)]
    rw [g 2 (by omega), g 0 (by omega), rA_k hop, rA_k hop]
    constructor
    · split <;> simp
    · split <;> simp
theorem oY.ups {o : Int} {y : pS} {c : Nat} {i : Int} {j : Nat} {v : Int} (x : oY sd o s y) (h : (c = 1 ∧ (j = 1 ∨ j = 2 ∨ j = 10 ∨ j = 11)) ∨ (c = 0 ∧ (j = 0 ∨ j = 2 ∨ j = 6)) ∨ c = 5 ∨ c = 6) : oY sd o s (up y c i j v) := by
  have kn := kidn sd
  have k3 := kid3 sd
  obtain ⟨x1, x2, x3, x4, x5, x6⟩ := x
  refine ⟨?_, ?_, fun k l q1 q2 q3 q4 => ?_, fun k => ?_, fun k => ?_, fun k hk => ?_⟩
  · rw [upE, if_neg (by omega)]; exact x1
  · rw [upE, if_neg (by omega)]; exact x2
  · rw [upE, if_neg (by omega)]; exact x3 k l q1 q2 q3 q4
  · rw [upE, if_neg (by omega)]; exact x4 k
  · rw [upE, if_neg (by omega)]; exact x5 k
  · rw [upE, if_neg (by omega), upE, if_neg (by omega)]; exact x6 k hk
/-- tokens do not mind what is beside them -/
theorem oY.tk2 {o it w a b f l l2 v p : Int} (hop : s 0 0 2 < s 0 0 1) (hit : it = s 0 0 1) : oY sd o s (rtok (up (up (up (rA s sd o) 5 l2 0 v) 0 0 0 p) 1 it 1 l2) sd it w a b f l) := by
  have kn := kidn sd
  have k3 := kid3 sd
  have ek : (up (up (up (rA s sd o) 5 l2 0 v) 0 0 0 p) 1 it 1 l2) 0 0 (kid sd) = s 0 0 (kid sd) := by
    simp only [upE]; rw [if_neg (by omega), if_neg (by omega), if_neg (by omega)]; exact rA_0 _ (by omega)
  refine ⟨?_, ?_, fun i j q1 q2 q3 q4 => ?_, fun i => ?_, fun i => ?_, fun k hk => ?_⟩
  · rw [rtok_o _ _ (by omega) (by omega) (by omega)]; simp only [upE]; rw [if_neg (by omega), if_neg (by omega), if_neg (by omega)]; exact rA_1
  · rw [rtok_k, ek]
  · rw [rtok_o _ _ (by omega) (by omega) (by omega)]; simp only [upE]; rw [if_neg (by omega), if_neg (by omega), if_neg (by omega)]
  · have g : (up (up (up (rA s sd o) 5 l2 0 v) 0 0 0 p) 1 it 1 l2) 4 i 0 = s 4 i 0 := by
      rw [upE, if_neg (by omega), upE, if_neg (by omega), upE, if_neg (by omega), rA_t _ _ (by omega)]
    rw [rtok_4, ek, g, hit]
  · rw [rtok_o _ _ (by omega) (by omega) (by omega)]; simp only [upE]; rw [if_neg (by omega), if_neg (by omega), if_neg (by omega)]
  · have g : ∀ j, j < 6 → rtok (up (up (up (rA s sd o) 5 l2 0 v) 0 0 0 p) 1 it 1 l2) sd it w a b f l (kid sd) k j = rA s sd o (kid sd) k j := fun j hj => by
      unfold rtok; rw [upE, if_neg (by omega), rput_v hj, if_neg (by rw [ek]; omega)]; simp only [upE]; rw [if_neg (by omega), if_neg (by omega), if_neg (by omega)]
    rw [g 2 (by omega), g 0 (by omega), rA_k hop, rA_k hop]
    constructor
    · split <;> simp
    · split <;> simp
theorem rL_addY {n o : Int} {y : pS} (v : rV n sd b0 s) (x : rL sd b0 s) (w : oY sd o s y) (pb : s 0 0 2 = -1 → s 0 0 1 = b0 ∧ s 0 0 (kid sd) = 0) (pd : ¬ s 0 0 2 = -1 → s 1 (s 0 0 2) 0 = 2 → ¬ o = 2 ∧ ¬ o = 5) (p5 : o = 5 → ¬ s 0 0 2 = -1) : rL sd b0 (up y 0 0 2 (s 0 0 1)) := by
  have kn := kidn sd
  have k3 := kid3 sd
  have i7 := v.1.2.2.2.2.2.2.1
  have ve := v.2.2.2
  obtain ⟨w1, w2, w3, w4, w5, w6⟩ := w
  have n := rA_new (s := s) (sd := sd) (o := o) (by omega)
  have u : ∀ c i j, ¬ (c = 0 ∧ j = 2) → up y 0 0 2 (s 0 0 1) c i j = y c i j := fun c i j h => by rw [upE, if_neg (by omega)]
  refine rL_add (o := o) v x ?_ ?_ ?_ (fun i j hi hj => ?_) (fun i j hi ho hj => ?_) (fun c => ⟨?_, ?_⟩) ?_ ?_ (fun c => ?_) (fun c => ?_) ⟨?_, ?_⟩ (fun c => ?_) ?_ (fun i hi => ?_) ?_ (fun i hi => ?_) (fun c => ?_) (fun k hk => ?_) pb pd p5
  · rw [u _ _ _ (by omega)]; exact w1
  · simp [upE]
  · rw [u _ _ _ (by omega)]; exact w2
  · rw [u _ _ _ (by omega), w3 i j (by omega) (by omega) (by omega) (by omega), rA_old j hi]
    split
    · rw [if_neg (by omega), if_neg (by omega)]; omega
    · omega
  · rw [u _ _ _ (by omega), w3 i j (by omega) (by omega) (by omega) (by omega), rA_old j hi, if_neg (by omega)]; omega
  · rw [u _ _ _ (by omega), w3 _ 6 (by omega) (by omega) (by omega) (by omega), rA_old 6 (by omega), if_pos ⟨c, rfl⟩, if_pos rfl]
  · rw [u _ _ _ (by omega), w3 _ 7 (by omega) (by omega) (by omega) (by omega), rA_old 7 (by omega), if_pos ⟨c, rfl⟩, if_neg (by omega)]
    by_cases d : o = 5
    · rw [if_pos ⟨rfl, d⟩, if_pos d]
    · rw [if_neg (fun e => d e.2), if_neg d]
  · rw [u _ _ _ (by omega), w3 _ 0 (by omega) (by omega) (by omega) (by omega)]; exact n.1
  · rw [u _ _ _ (by omega), w3 _ 3 (by omega) (by omega) (by omega) (by omega)]; exact n.2.2.2.1
  · rw [u _ _ _ (by omega), w3 _ 4 (by omega) (by omega) (by omega) (by omega), n.2.2.2.2.1, if_neg c]
  · rw [u _ _ _ (by omega), w3 _ 5 (by omega) (by omega) (by omega) (by omega), n.2.2.2.2.2.1, if_neg c]
  · rw [u _ _ _ (by omega), w3 _ 6 (by omega) (by omega) (by omega) (by omega), n.2.2.2.2.2.2.1]; exact ve _ _ (Int.le_refl _)
  · rw [u _ _ _ (by omega), w3 _ 7 (by omega) (by omega) (by omega) (by omega), n.2.2.2.2.2.2.2.1]; exact ve _ _ (Int.le_refl _)
  · rw [u _ _ _ (by omega), w3 _ 8 (by omega) (by omega) (by omega) (by omega), n.2.2.2.2.2.2.2.2.1, if_neg c]
  · rw [u _ _ _ (by omega), w3 _ 9 (by omega) (by omega) (by omega) (by omega), n.2.2.2.2.2.2.2.2.2 9 (by omega)]; exact ve _ _ (Int.le_refl _)
  · rw [u _ _ _ (by omega), w4, if_neg hi]
  · rw [u _ _ _ (by omega), w4, if_pos rfl]
  · rw [u _ _ _ (by omega), w5, rA_2 i7, if_neg (by omega)]
  · rw [u _ _ _ (by omega), w5, rA_2 i7, if_pos ⟨c, rfl⟩]
  · rw [u _ _ _ (by omega), u _ _ _ (by omega)]; exact w6 k hk
/-- a leaf -/
theorem rL_leaf {n o : Int} {y : pS} (v : rV n sd b0 s) (x : rL sd b0 s) (w : oY sd o s y) (pb : s 0 0 2 = -1 → s 0 0 1 = b0 ∧ s 0 0 (kid sd) = 0) (pd : ¬ s 0 0 2 = -1 → s 1 (s 0 0 2) 0 = 2 → ¬ o = 2 ∧ ¬ o = 5) (p5 : o = 5 → ¬ s 0 0 2 = -1) (ho : ¬ o = 4 ∧ ¬ o = 2) (v' : rV n sd b0 (rfin y (s 0 0 1))) : rL sd b0 (rfin y (s 0 0 1)) := by
  have kn := kidn sd
  have k3 := kid3 sd
  have xa := rL_addY v x w pb pd p5
  have i7 := v.1.2.2.2.2.2.2.1
  have i4 := v.1.2.2.2.1
  have i3 := v.1.2.2.1
  have i6 := v.1.2.2.2.2.2.1
  have ve := v.2.2.2
  have nn := rA_new (s := s) (sd := sd) (o := o) (by omega)
  obtain ⟨w1, w2, w3, w4, w5, w6⟩ := w
  have u : ∀ c i j, ¬ (c = 0 ∧ j = 2) → up y 0 0 2 (s 0 0 1) c i j = y c i j := fun c i j h => by rw [upE, if_neg (by omega)]
  have u2 : up y 0 0 2 (s 0 0 1) 0 0 2 = s 0 0 1 := by simp [upE]
  have u1 : up y 0 0 2 (s 0 0 1) 0 0 1 = s 0 0 1 + 1 := by rw [u _ _ _ (by omega)]; exact w1
  have uk : up y 0 0 2 (s 0 0 1) 0 0 (kid sd) = s 0 0 (kid sd) + 1 := by rw [u _ _ _ (by omega)]; exact w2
  have ut : ∀ i j, up y 0 0 2 (s 0 0 1) 1 i j = y 1 i j := fun i j => u _ _ _ (by omega)
  have y0 : y 1 (s 0 0 1) 0 = o := by rw [w3 _ 0 (by omega) (by omega) (by omega) (by omega)]; exact nn.1
  have y3 : y 1 (s 0 0 1) 3 = s 0 0 2 := by rw [w3 _ 3 (by omega) (by omega) (by omega) (by omega)]; exact nn.2.2.2.1
  have y6 : y 1 (s 0 0 1) 6 = 0 := by rw [w3 _ 6 (by omega) (by omega) (by omega) (by omega), nn.2.2.2.2.2.2.1]; exact ve _ _ (Int.le_refl _)
  have fo : ∀ c i j, ¬ (c = 1 ∧ j = 9) → ¬ (c = 0 ∧ j = 2) → rfin y (s 0 0 1) c i j = y c i j := fun c i j h1 h2 => rfin_o _ _ h1 h2
  refine rL_fin xa (by rw [u2, u1]; omega) i3 (fun j j0 j1 => ?_) ?_ (Or.inr ⟨?_, ?_, ?_, ?_⟩) (fun i j hj => ?_) (fun i h1 h2 => ?_) ?_ (fun h1 h2 => ?_) (fun i => ?_) (fun i => ?_) (fun k _ _ => ?_) (fun k _ => ?_) ?_
  · rw [u1] at j1
    have q := v'.2.1 j j0 (by rw [fo _ _ _ (by omega) (by omega), w1]; omega)
    rw [fo _ _ _ (by omega) (by omega), fo _ _ _ (by omega) (by omega), fo _ _ _ (by omega) (by omega), fo _ _ _ (by omega) (by omega), fo 4 _ _ (by omega) (by omega), fo 0 _ (kid sd) (by omega) (by omega)] at q
    rw [ut, ut, ut, ut, u 4 _ _ (by omega), u 0 0 (kid sd) (by omega)]
    exact ⟨q.1, q.2.1, q.2.2.1, q.2.2.2.2.2.2⟩
  · rw [fo _ _ _ (by omega) (by omega), u _ _ _ (by omega)]
  · rw [u2, ut, y0]; exact ho.1
  · rw [u2, ut, y0]; exact ho.2
  · rw [u2, ut]; exact y6
  · rw [fo _ _ _ (by omega) (by omega), u _ _ _ (by omega)]
  · rw [fo _ _ _ (by omega) (by omega), ut]
  · rw [u2] at h1 h2
    rw [ut, ut] at h2
    rw [ut]; exact rfin_9 h1 h2
  · rw [u2, u1, ← w1]; exact rfin_x (by rw [y3]; omega)
  · rw [u2, ut] at h1 h2
    rw [ut] at h2
    rw [u2, ut, u1, ← w1]; exact rfin_d h1 h2
  · rw [fo _ _ _ (by omega) (by omega), u _ _ _ (by omega)]
  · rw [fo _ _ _ (by omega) (by omega), u _ _ _ (by omega)]
  · rw [fo _ _ _ (by omega) (by omega), u _ _ _ (by omega)]
  · rw [fo _ _ _ (by omega) (by omega), u _ _ _ (by omega)]
  · rw [rfin_2, u2]
    simp only [ut]
    rfl
end LS
