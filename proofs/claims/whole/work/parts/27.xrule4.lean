/-! The class: items and sides of a rule, put together. -/
section XJ
variable {h : zH} {r : Nat} {sd b0 : Int} {t : Int → Int} {n : Int} {s : pS}
/-- agreement but for tokens -/
theorem rtk {A : pS} {it w a b f l : Int} (c : Nat) (i : Int) (j : Nat) (h1 : c = 1 ∨ c = 2 ∨ c = 5 ∨ (c = 0 ∧ (j = 0 ∨ j = 1 ∨ j = 2 ∨ j = 4 ∨ j = 5))) : rtok A sd it w a b f l c i j = A c i j := by
  have k3 := kid3 sd
  exact rtok_o _ _ (by omega) (by omega) (by omega)
/-- a word, then the end of the item -/
theorem s80l {A : pS} {it p b : Int} (o : tOk t n) (x : xR h r sd b0 t n A) (e0 : A 0 0 0 = p) (hp : 0 ≤ p ∧ p < n) (hit : 0 ≤ it ∧ it < 40)
    (par : A 1 it 3 = -1 ∨ (0 ≤ A 1 it 3 ∧ A 1 it 3 < it)) (hi1 : 0 ≤ A 0 0 1 ∧ A 0 0 1 ≤ 40) {Q : Option zV → zH → Prop}
    (k : ∀ v h1, xO h r sd b0 t n (rlit t sd A it p b) v h1 → Q (some (vI v)) h1) :
    zC1 85 [vR 54 104, vI it, vI b] h (fun v31 h31 => (v31 = 0 → ((0 : Int) = 0 ∨ (0 : Int) = 1) ∧ Q (some (vI 0)) h31) ∧ (¬ (v31 = 0) → zC1 89 [vR 54 104, vI it] h31 (fun v32 h32 => (v32 = 0 → ((0 : Int) = 0 ∨ (0 : Int) = 1) ∧ Q (some (vI 0)) h32) ∧ (¬ (v32 = 0) → ((1 : Int) = 0 ∨ (1 : Int) = 1) ∧ Q (some (vI 1)) h32)))) := by
  unfold rlit at k
  refine s85 o x (by omega) hit (fun v31 h31 f31 ev g31 y31 => ?_)
  rw [e0] at ev g31 y31
  refine ⟨fun c => ⟨Or.inl rfl, ?_⟩, fun c => ?_⟩
  · rw [ev, b2i_eq0] at c
    rw [if_neg c] at k g31
    exact k 0 h31 (xO.no f31 (by rw [g31]; simp [upE]))
  · rw [ev, b2i_ne0] at c
    rw [if_pos c] at k
    have y31 := y31 c
    refine s89 y31 hit (by simp [upE]; exact par) (by simp [upE]; exact hi1) (fun h32 f32 y32 => ⟨fun d => absurd d (by decide), fun _ => ⟨Or.inr rfl, k 1 h32 (xO.ye (f31.tr f32) (y32.fcg (fun j hj => ?_) (fun i j => ?_) (fun i => ?_) (fun i => ?_)))⟩⟩)
    · simp only [upE]; rw [rtk 0 0 j (by omega)]
    · simp only [upE]; rw [rtk 1 i j (by omega)]
    · simp only [upE]; rw [rtk 2 i 0 (by omega)]
    · simp only [upE]; rw [rtk 5 i 0 (by omega)]
theorem s80a {A : pS} {it p : Int} (x : xR h r sd b0 t n (up A 0 0 0 (p + 1))) (hit : 0 ≤ it ∧ it < 40) (par : A 1 it 3 = -1 ∨ (0 ≤ A 1 it 3 ∧ A 1 it 3 < it)) (hi1 : 0 ≤ A 0 0 1 ∧ A 0 0 1 ≤ 40) {Q : Option zV → zH → Prop}
    (k : ∀ v h1, xO h r sd b0 t n (true, rfin (up (rtok A sd it 0 0 0 0 0) 0 0 0 (p + 1)) it) v h1 → Q (some (vI v)) h1) :
    zC1 89 [vR 54 104, vI it] h (fun v22 h22 => ((v22 : Int) = 0 ∨ (v22 : Int) = 1) ∧ Q (some (vI v22)) h22) := by
  refine s89 x hit (by simp [upE]; exact par) (by simp [upE]; exact hi1) (fun h32 f32 y32 => ⟨Or.inr rfl, k 1 h32 (xO.ye f32 (y32.fcg (fun j hj => ?_) (fun i j => ?_) (fun i => ?_) (fun i => ?_)))⟩)
  · simp only [upE]; rw [rtk 0 0 j (by omega)]
  · simp only [upE]; rw [rtk 1 i j (by omega)]
  · simp only [upE]; rw [rtk 2 i 0 (by omega)]
  · simp only [upE]; rw [rtk 5 i 0 (by omega)]
theorem s80d {A : pS} {it p : Int} (x : xR h r sd b0 t n (up A 0 0 0 (p + 1))) {Q : Option zV → zH → Prop}
    (k : ∀ v h1, xO h r sd b0 t n (true, up (up (rtok A sd it 2 0 0 0 0) 0 0 0 (p + 1)) 0 0 2 it) v h1 → Q (some (vI v)) h1) : ∀ h29 : zH, h29 = sI h 54 3 it → ((1 : Int) = 0 ∨ (1 : Int) = 1) ∧ Q (some (vI 1)) h29 := by
  intro h29 e29
  have w := xR.w3 (v := it) x
  rw [← e29] at w
  refine ⟨Or.inr rfl, k 1 h29 (xO.ye w.2 (w.1.cg ⟨?_, ?_, ?_, ?_, ?_⟩ (fun i j _ => ?_) (fun i => ?_) (fun i => ?_)))⟩
  · simp only [upE]; rw [rtk 0 0 0 (by omega)]
  · simp only [upE]; rw [rtk 0 0 1 (by omega)]
  · simp only [upE]; rw [rtk 0 0 2 (by omega)]
  · simp only [upE]; rw [rtk 0 0 4 (by omega)]
  · simp only [upE]; rw [rtk 0 0 5 (by omega)]
  · simp only [upE]; rw [rtk 1 i j (by omega)]
  · simp only [upE]; rw [rtk 2 i 0 (by omega)]
  · simp only [upE]; rw [rtk 5 i 0 (by omega)]
theorem s80t {A : pS} {it p : Int} (o : tOk t n) (x : xR h r sd b0 t n (up A 0 0 0 (p + 1))) (hp : 0 ≤ p ∧ p < n) (hit : 0 ≤ it ∧ it < 40) {Q : Option zV → zH → Prop}
    (k : ∀ v h1, xO h r sd b0 t n (rterm t sd A it (pbl t 301 (p + 1))) v h1 → Q (some (vI v)) h1) : ∀ h23 : zH, h23 = sI h 54 3 it →
      zC0 78 [vR 54 104] h23 (fun h24 => (zty 101 (gR h24 54 1) h24) ∧ zC1 44 [vR (gR h24 54 1) 101, vI (gI h24 54 0)] h24 (fun v25 h25 => zC1 33 [vI v25] h25 (fun v26 h26 =>
        (v26 = 0 → ((0 : Int) = 0 ∨ (0 : Int) = 1) ∧ Q (some (vI 0)) h26) ∧ (¬ (v26 = 0) → zC1 85 [vR 54 104, vI it, vI 1] h26 (fun v27 h27 => (v27 = 0 → ((0 : Int) = 0 ∨ (0 : Int) = 1) ∧ Q (some (vI 0)) h27) ∧ (¬ (v27 = 0) → ((1 : Int) = 0 ∨ (1 : Int) = 1) ∧ Q (some (vI 1)) h27)))))) := by
  intro h23 e23
  have w := xR.w3 (v := it) x
  rw [← e23] at w
  have ep : (up (up A 0 0 0 (p + 1)) 0 0 2 it) 0 0 0 = p + 1 := by simp [upE]
  have hr := pbl_rg o 301 (p + 1) (by omega) (by omega)
  refine s78 o w.1 (by rw [ep]; omega) (by rw [ep]; omega) (fun h24 f24 y24 => ?_)
  unfold rblk at y24
  rw [ep] at y24
  revert k hr y24
  generalize pbl t 301 (p + 1) = p1
  intro k hr y24
  unfold rterm at k
  have F := w.2.tr f24
  have q := y24.1
  have z0 : gI h24 54 0 = p1 := by rw [y24.2.2.1.1]; simp [upE]
  rw [q.2.1, z0]
  have e24 : (up (up (up A 0 0 0 (p + 1)) 0 0 2 it) 0 0 0 p1) 0 0 0 = p1 := by simp [upE]
  refine ⟨q.2.2.2.1, s44 y24.2.1 o (s33 ⟨fun c => ⟨Or.inl rfl, ?_⟩, fun c => ?_⟩)⟩
  · rw [b2i_eq0] at c
    rw [if_neg c] at k
    exact k 0 h24 (xO.no F (by rw [z0]; simp [upE]))
  · rw [b2i_ne0] at c
    rw [if_pos c] at k
    have e8 : ((pmo 1 : Nat) : Int) = 8 := rfl
    refine s85 o y24 (by rw [e24]; omega) hit (fun v27 h27 f27 ev g27 y27 => ?_)
    rw [e24] at ev g27 y27
    rw [e8] at ev g27 y27
    refine ⟨fun d => ⟨Or.inl rfl, ?_⟩, fun d => ⟨Or.inr rfl, ?_⟩⟩
    · rw [ev, b2i_eq0] at d
      rw [if_neg d] at k g27
      exact k 0 h27 (xO.no (F.tr f27) (by rw [g27]; simp [upE]))
    · rw [ev, b2i_ne0] at d
      rw [if_pos d] at k
      refine k 1 h27 (xO.ye (F.tr f27) ((y27 d).cg ⟨?_, ?_, ?_, ?_, ?_⟩ (fun i j _ => ?_) (fun i => ?_) (fun i => ?_)))
      · simp only [upE]; simp
      · simp only [upE]; rw [rtk 0 0 1 (by omega)]; simp
      · simp only [upE]; simp
      · simp only [upE]; rw [rtk 0 0 4 (by omega)]; simp
      · simp only [upE]; rw [rtk 0 0 5 (by omega)]; simp
      · simp only [upE]; rw [rtk 1 i j (by omega)]; simp
      · simp only [upE]; rw [rtk 2 i 0 (by omega)]; simp
      · simp only [upE]; rw [rtk 5 i 0 (by omega)]; simp
theorem opc_c (c : Int) : opc c = -1 ∨ opc c = 0 ∨ opc c = 1 ∨ opc c = 2 ∨ opc c = 3 ∨ opc c = 4 ∨ opc c = 5 := by
  unfold opc
  repeat' split
  all_goals simp
theorem s80 (o : tOk t n) (x : xR h r sd b0 t n s) (v : rV n sd b0 s) (hH : rH s) (hb : 0 ≤ b0 ∧ b0 ≤ 20) (hsd : sd = 0 ∨ sd = 1) {K : Int → zH → Prop}
    (k : ∀ v h1, xO h r sd b0 t n (ritem t sd b0 s) v h1 → K v h1) : zC1 80 [vR 54 104, vI (t (s 0 0 0))] h K := by
  have o2 := o.2.1
  have x1 := x.1
  have x3 := x.2.2.1
  have vI' := v.1
  obtain ⟨i1, i2, i3, i4, i5, i6, i7, i8, i9⟩ := vI'
  clear i9
  have bad : rbad t sd b0 s → K 0 h := by
    intro c
    have en : ritem t sd b0 s = (false, s) := by unfold ritem; rw [if_pos c]
    exact k 0 h (by rw [en]; exact xO.no frP.rf x3.1)
  refine cI (k80_0 (t (s 0 0 0)) h _ (s81 ⟨fun c => ⟨Or.inl rfl, zq1 (bad (Or.inl c))⟩, fun c => ?_⟩))
  rw [x1.1, x3.2.1, x3.2.2.2.1]
  refine ⟨x1.2.2.1, by clear hsd; unfold inR; omega, fun d => ⟨Or.inl rfl, zq1 (bad (Or.inr (Or.inl d)))⟩, fun d => s82 x (by clear hsd; omega) ⟨fun e => ?_, fun e => ⟨Or.inl rfl, zq1 (bad (Or.inr (Or.inr (Classical.byContradiction (fun g => e (b2i_ne0.mpr g))))))⟩⟩⟩
  rw [b2i_ne0] at e
  have ng : ¬ rbad t sd b0 s := by
    intro g
    rcases g with g | g | g
    · exact c g
    · exact d g
    · exact e g
  clear e
  have hp : 0 ≤ s 0 0 0 ∧ s 0 0 0 < n := o.lt (by rcases opc_m t (s 0 0 0) with c1 | c1; exact absurd c1 c; exact c1)
  have hit : 0 ≤ s 0 0 1 ∧ s 0 0 1 < 40 := by clear hsd ng; omega
  have an := fun q => rA_new (s := s) (sd := sd) (o := q) (by clear hsd ng; omega)
  have par : ∀ q, rA s sd q 1 (s 0 0 1) 3 = -1 ∨ (0 ≤ rA s sd q 1 (s 0 0 1) 3 ∧ rA s sd q 1 (s 0 0 1) 3 < s 0 0 1) := fun q => by
    rw [(an q).2.2.2.1]
    by_cases c1 : s 0 0 2 = -1
    · exact Or.inl c1
    · have := i8 c1; exact Or.inr ⟨by clear hsd ng; omega, i7⟩
  have hi1 : ∀ q, 0 ≤ rA s sd q 0 0 1 ∧ rA s sd q 0 0 1 ≤ 40 := fun q => by rw [rA_1]; clear hsd ng; omega
  have hHA : ∀ q, rH (rA s sd q) := fun q l => by rw [rA_t _ _ (Or.inr (Or.inl rfl))]; exact hH l
  have a00 : ∀ q, rA s sd q 0 0 0 = s 0 0 0 := fun q => rA_0 0 (by decide)
  refine s83 x v hb d hsd (fun h20 f20 y20 => ?_)
  have yA := y20.A
  clear y20
  refine ⟨fun c3 => ?_, fun c3 => ?_⟩
  · have z20 : gI h20 54 0 = s 0 0 0 := by rw [yA.2.2.1.1]; exact a00 _
    rw [z20]
    refine ⟨by clear hsd ng; unfold inR; omega, fun h21 e21 => ?_⟩
    have w21 := xR.w0 (v := s 0 0 0 + 1) yA
    rw [← e21] at w21
    have F21 := f20.tr w21.2
    have y21 := w21.1
    clear w21 yA e21
    refine ⟨fun c1 => ?_, fun c1 => ⟨fun c2 => ?_, fun c2 => ⟨fun c2' => absurd c2' c3, fun _ => ⟨fun c4 => ?_, fun c4 => ⟨fun c5 => ?_, fun c5 => ?_⟩⟩⟩⟩⟩
    · rw [c1] at y21
      refine s80h o y21 hp hit hsd (hHA 1) (Or.inr ⟨by rw [(an 1).1]; decide, rfl⟩) (par 1) (hi1 1) (fun v h1 w => zq1 (k v h1 ?_))
      have en : ritem t sd b0 s = rhole t sd (rA s sd 1) (s 0 0 1) (s 0 0 0) (t (s 0 0 0 + 1) - 65) 1 := by
        unfold ritem; rw [if_neg ng, c1]; rfl
      rw [en]; exact xO.tr F21 w
    · have c2 : opc (t (s 0 0 0)) = 2 := c2
      rw [c2] at y21
      refine s80d (Q := fun rr h1 => ∃ v : Int, rr = some (Sum.inl v) ∧ K v h1) y21 (fun v h1 w => zq1 (k v h1 ?_))
      have en : ritem t sd b0 s = (true, up (up (rtok (rA s sd 2) sd (s 0 0 1) 2 0 0 0 0) 0 0 0 (s 0 0 0 + 1)) 0 0 2 (s 0 0 1)) := by
        unfold ritem; rw [if_neg ng, c2]; rfl
      rw [en]; exact xO.tr F21 w
    · have c4 : opc (t (s 0 0 0)) = 4 := c4
      rw [c4] at y21
      refine s80t (Q := fun rr h1 => ∃ v : Int, rr = some (Sum.inl v) ∧ K v h1) o y21 hp hit (fun v h1 w => zq1 (k v h1 ?_))
      have en : ritem t sd b0 s = rterm t sd (rA s sd 4) (s 0 0 1) (pbl t 301 (s 0 0 0 + 1)) := by
        unfold ritem; rw [if_neg ng, c4]; rfl
      rw [en]; exact xO.tr F21 w
    · have c5 : opc (t (s 0 0 0)) = 5 := c5
      rw [c5] at y21
      refine s80h o y21 hp hit hsd (hHA 5) (Or.inl ⟨(an 5).1, rfl⟩) (par 5) (hi1 5) (fun v h1 w => zq1 (k v h1 ?_))
      have en : ritem t sd b0 s = rhole t sd (rA s sd 5) (s 0 0 1) (s 0 0 0) (t (s 0 0 0 + 1) - 65) 2 := by
        unfold ritem; rw [if_neg ng, c5]; rfl
      rw [en]; exact xO.tr F21 w
    · have c0 : opc (t (s 0 0 0)) = 0 := by
        rcases opc_c (t (s 0 0 0)) with q | q | q | q | q | q | q
        · exact absurd q c
        · exact q
        · exact absurd q c1
        · exact absurd q c2
        · exact absurd q c3
        · exact absurd q c4
        · exact absurd q c5
      rw [c0] at y21
      refine s80a (Q := fun rr h1 => ∃ v : Int, rr = some (Sum.inl v) ∧ K v h1) y21 hit (par 0) (hi1 0) (fun v h1 w => zq1 (k v h1 ?_))
      have en : ritem t sd b0 s = (true, rfin (up (rtok (rA s sd 0) sd (s 0 0 1) 0 0 0 0 0) 0 0 0 (s 0 0 0 + 1)) (s 0 0 1)) := by
        unfold ritem; rw [if_neg ng, c0]; rfl
      rw [en]; exact xO.tr F21 w
  · have c3 : opc (t (s 0 0 0)) = 3 := Classical.byContradiction c3
    rw [c3] at yA
    refine s33 ?_
    have eb : b2i (isL (t (s 0 0 0))) = if isL (t (s 0 0 0)) then 1 else 0 := by
      by_cases q : isL (t (s 0 0 0))
      · rw [b2i_pos q, if_pos q]
      · rw [b2i_neg q, if_neg q]
    rw [eb]
    refine s80l (Q := fun rr h1 => ∃ v : Int, rr = some (Sum.inl v) ∧ K v h1) o yA (a00 3) hp hit (par 3) (hi1 3) (fun v h1 w => zq1 (k v h1 ?_))
    have en : ritem t sd b0 s = rlit t sd (rA s sd 3) (s 0 0 1) (s 0 0 0) (if isL (t (s 0 0 0)) then 1 else 0) := by
      unfold ritem; rw [if_neg ng, if_pos c3]; rfl
    rw [en]; exact xO.tr f20 w
theorem rH_fin {i : Int} (x : rH s) : rH (rfin s i) := fun l => by rw [rfin_o _ _ (by omega) (by omega)]; exact x l
theorem rH_step {s' : pS} (x : rH s) (e : rstep t sd b0 s = (true, s')) : rH s' := by
  have kn := kidn sd
  have hA : ∀ q, rH (rA s sd q) := fun q l => by rw [rA_t _ _ (Or.inr (Or.inl rfl))]; exact x l
  have ht : ∀ {A : pS} {it w a b f l : Int}, rH A → rH (rtok A sd it w a b f l) := fun y l => by rw [rtk 5 l 0 (by omega)]; exact y l
  have hu : ∀ {A : pS} {c : Nat} {i : Int} {j : Nat} {v : Int}, rH A → ¬ c = 5 → rH (up A c i j v) := fun y hc l => by rw [upE, if_neg (by omega)]; exact y l
  have h5 : ∀ {A : pS} {l v : Int}, rH A → v = 1 ∨ v = 2 → rH (up A 5 l 0 v) := fun y hc l => by
    rw [upE]; split
    · exact Or.inr hc
    · exact y l
  unfold rstep at e
  split at e
  · cases e
    unfold rclose
    refine rH_fin (hu (hu (fun l => ?_) (by omega)) (by omega))
    rw [rput_o _ _ (by omega) (by omega), upE, if_neg (by omega)]; exact x l
  · unfold ritem at e
    split at e
    · cases e
    · split at e
      · revert e
        generalize (if isL (t (s 0 0 0)) then (1 : Int) else 0) = b
        intro e
        unfold rlit at e
        split at e
        · cases e; exact rH_fin (hu (hu (hu (ht (hA 3)) (by omega)) (by omega)) (by omega))
        · cases e
      · split at e
        · cases e; exact hu (hu (ht (hA 2)) (by omega)) (by omega)
        · split at e
          · unfold rterm at e
            split at e
            · split at e
              · cases e; exact hu (hu (hu (hu (hu (hu (ht (hA 4)) (by omega)) (by omega)) (by omega)) (by omega)) (by omega)) (by omega)
              · cases e
            · cases e
          · split at e
            · cases e; exact rH_fin (hu (ht (hA 0)) (by omega))
            · split at e
              · unfold rhole at e
                split at e
                · split at e
                  · cases e; exact rH_fin (ht (hu (hu (h5 (hA 1) (Or.inl rfl)) (by omega)) (by omega)))
                  · split at e
                    · cases e
                    · cases e; exact rH_fin (hu (hu (ht (hu (hu (h5 (hA 1) (Or.inl rfl)) (by omega)) (by omega))) (by omega)) (by omega))
                · cases e
              · unfold rhole at e
                split at e
                · split at e
                  · cases e; exact rH_fin (ht (hu (hu (h5 (hA 5) (Or.inr rfl)) (by omega)) (by omega)))
                  · split at e
                    · cases e
                    · cases e; exact rH_fin (hu (hu (ht (hu (hu (h5 (hA 5) (Or.inr rfl)) (by omega)) (by omega))) (by omega)) (by omega))
                · cases e
theorem s77l (o : tOk t n) (hb : 0 ≤ b0 ∧ b0 ≤ 20) (hsd : sd = 0 ∨ sd = 1) {Q : Option zV → zH → Prop} : ∀ (f : Nat) (h : zH) (s : pS) (z : Int) (u : zV), xR h r sd b0 t n s → rV n sd b0 s → rH s → z + f = 301 → 0 ≤ z →
    (∀ v h1, xO h r sd b0 t n (rside t sd b0 f s) v h1 → Q (some (vI v)) h1) → zK 77 18 [vR 54 104, vI z, u] [] h Q := by
  intro f
  induction f with
  | zero =>
    intro h s z u x v hH hz hz0 k
    refine k77_18 z u h Q ⟨fun _ => ⟨Or.inl rfl, k 0 h (xO.no frP.rf x.2.2.1.1)⟩, fun c => absurd c (by clear hsd; omega)⟩
  | succ f ih =>
    intro h s z u x v hH hz hz0 k
    refine k77_18 z u h Q ⟨fun c => absurd c (by clear hsd; omega), fun _ => s78 o x v.1.1 v.1.2.1 (fun h11 f11 y11 => ?_)⟩
    have vb := (rV_blk o v).1
    have hHb : rH (rblk t s) := fun l => by unfold rblk; rw [upE, if_neg (by omega)]; exact hH l
    unfold rside at k
    have hHs := fun s' => rH_step (s' := s') (t := t) (b0 := b0) (sd := sd) hHb
    have hVs := fun s' => rV_step (s' := s') o vb
    generalize rblk t s = S at k y11 vb hHb hHs hVs
    have q11 := y11.1
    have z11 := y11.2.2.1.1
    have i7 := vb.1.2.2.2.2.2.2.1
    have i6 := vb.1.2.2.2.2.2.1
    have i5 := vb.1.2.2.2.2.1
    -- what follows a step
    have next : ∀ s1 h15 u, rstep t sd b0 S = (true, s1) → frP (rdA r) h h15 → xR h15 r sd b0 t n s1 → (¬ gI h15 54 3 = -1 → inR (z + 1) ∧ zK 77 18 [vR 54 104, vI (z + 1), u] [] h15 Q) ∧ (¬ ¬ gI h15 54 3 = -1 → ((1 : Int) = 0 ∨ (1 : Int) = 1) ∧ Q (some (vI 1)) h15) := by
      intro s1 h15 u e f15 y15
      rw [e] at k
      dsimp only at k
      rw [y15.2.2.1.2.2.1]
      refine ⟨fun c => ⟨by clear hsd; unfold inR; omega, ?_⟩, fun c => ⟨Or.inr rfl, ?_⟩⟩
      · rw [if_neg c] at k
        exact ih h15 s1 (z + 1) u y15 (hVs s1 e).1 (hHs s1 e) (by clear hsd; omega) (by clear hsd; omega) (fun v h1 w => k v h1 (xO.tr f15 w))
      · rw [if_pos (Classical.byContradiction c)] at k
        exact k 1 h15 (xO.ye f15 y15)
    have item : ¬ (t (S 0 0 0) = 41 ∧ ¬ S 0 0 2 = -1 ∧ S 1 (S 0 0 2) 0 = 4) → zK 77 76 [vR 54 104, vI z, vI (t (S 0 0 0))] [] h11 Q := by
      intro c
      have e : rstep t sd b0 S = ritem t sd b0 S := by unfold rstep; rw [if_neg c]
      refine k77_76 z _ h11 Q (s80 o y11 vb hHb hb hsd (fun v16 h16 w16 => ?_))
      rw [← e] at w16
      obtain ⟨f16, ev, g16, y16⟩ := w16
      rcases hz2 : rstep t sd b0 S with ⟨ok, s1⟩
      rw [hz2] at ev g16 y16
      cases ok with
      | false =>
        rw [b2i_neg (by simp)] at ev
        rw [hz2] at k
        exact ⟨fun d => absurd ev d, fun _ => ⟨Or.inl rfl, k 0 h16 (xO.no (f11.tr f16) g16)⟩⟩
      | true =>
        rw [b2i_pos rfl] at ev
        exact ⟨fun _ => next s1 h16 _ hz2 (f11.tr f16) (y16 rfl), fun d => absurd (by rw [ev]; decide) d⟩
    rw [q11.2.1, z11]
    refine ⟨q11.2.2.2.1, s44 y11.2.1 o ⟨fun c => item (fun d => c d.1), fun c => s79 y11 (by clear hsd; omega) ⟨fun d => item (fun e => absurd e.2 (b2i_eq0.mp d)), fun d => ?_⟩⟩⟩
    rw [b2i_ne0] at d
    have c : t (S 0 0 0) = 41 := Classical.byContradiction c
    have o2 := o.2.1
    have lt := o.lt (i := S 0 0 0) (by clear hsd; omega)
    rw [z11]
    refine ⟨by clear hsd; unfold inR; omega, fun h14 e14 => ?_⟩
    have w14 := xR.w0 (v := S 0 0 0 + 1) y11
    rw [← e14] at w14
    have e3 : gI h14 54 3 = S 0 0 2 := by rw [w14.1.2.2.1.2.2.1]; simp [upE]
    rw [e3]
    have pj := vb.2.1 (S 0 0 2) (vb.1.2.2.2.2.2.2.2.1 d.1).1 i7
    have pb := (vb.1.2.2.2.2.2.2.2.1 d.1).1
    have i3 := vb.1.2.2.2.1
    refine s89 w14.1 (by clear hsd pj; omega) ?_ ?_ (fun h15 f15 y15 => ?_)
    · have e : ∀ i, up S 0 0 0 (S 0 0 0 + 1) 1 i 3 = S 1 i 3 := fun i => by simp [upE]
      rw [e]
      rcases pj.1 with g | g
      · exact Or.inl g
      · exact Or.inr ⟨by clear hsd; omega, g.2.1⟩
    · have e : up S 0 0 0 (S 0 0 0 + 1) 0 0 1 = S 0 0 1 := by simp [upE]
      rw [e]; clear hsd pj; omega
    · have e : rstep t sd b0 S = (true, rclose sd S) := by unfold rstep; rw [if_pos ⟨c, d⟩]
      refine next (rclose sd S) h15 _ e ((f11.tr w14.2).tr f15) ?_
      unfold rclose
      have kn := kidn sd
      have k3 := kid3 sd
      refine y15.fcg (fun j hj => ?_) (fun i j => ?_) (fun i => ?_) (fun i => ?_)
      · simp only [upE]
        rw [rput_o _ _ (by omega) (by omega), upE]
        rcases hj with hj | hj | hj | hj | hj <;> simp [hj] <;> omega
      · simp only [upE]; rw [rput_o _ _ (by omega) (by omega), upE]; simp; omega
      · simp only [upE]; rw [rput_o _ _ (by omega) (by omega), upE]; simp
      · simp only [upE]; rw [rput_o _ _ (by omega) (by omega), upE]; simp
end XJ
