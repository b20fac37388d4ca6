/-! The model: an item of a rule. -/
def rag (sd : Int) (s' s : pS) : Prop := (∀ c i j, c = kid sd ∨ c = 4 ∨ c = 5 ∨ c = 6 → s' c i j = s c i j) ∧ (∀ j, j = 1 ∨ j = kid sd ∨ j = 6 → s' 0 0 j = s 0 0 j)
section MJ
variable {h : zH} {sd b0 : Int} {t : Int → Int} {n : Int} {s : pS}
theorem rag.rf : rag sd s s := ⟨fun _ _ _ _ => rfl, fun _ _ => rfl⟩
theorem rag.up {s' : pS} {c : Nat} {i : Int} {j : Nat} {v : Int} (x : rag sd s' s) (hc : c = 1 ∨ (c = 0 ∧ (j = 0 ∨ j = 2 ∨ j = 4 ∨ j = 5))) : rag sd (up s' c i j v) s := by
  have kn := kidn sd
  have k3 := kid3 sd
  refine ⟨fun d k l hd => ?_, fun l hl => ?_⟩
  · rw [upE, if_neg (by omega)]; exact x.1 d k l hd
  · rw [upE, if_neg (by omega)]; exact x.2 l hl
theorem rag.fin {s' : pS} {i : Int} (x : rag sd s' s) : rag sd (rfin s' i) s := by
  have kn := kidn sd
  have k3 := kid3 sd
  refine ⟨fun d k l hd => ?_, fun l hl => ?_⟩
  · rw [rfin_o _ _ (by omega) (by omega)]; exact x.1 d k l hd
  · rw [rfin_o _ _ (by omega) (by omega)]; exact x.2 l hl
theorem mQ0.ag {s' : pS} (x : mQ0 h sd b0 s) (g : rag sd s' s) : mQ0 h sd b0 s' :=
  x.cg ⟨g.2 1 (by omega), g.2 _ (by omega), g.2 6 (by omega)⟩ (fun l => g.1 5 l 0 (by omega)) (fun k j => g.1 _ k j (by omega)) (fun k => g.1 6 k 0 (by omega)) (fun i => g.1 4 i 0 (by omega))
/-- the letter of an item that is whole: nothing deep is open -/
theorem bbL {s' : pS} (v : rV n sd b0 s') {i : Int} (h0 : b0 ≤ i) (h1 : i < s' 0 0 1) (e : s' 0 0 2 = rT s' i) : b2i (¬ s' 0 0 2 = -1 ∧ s' 1 (s' 0 0 2) 0 = 2) = 0 := by
  apply b2i_neg
  rintro ⟨c, d⟩
  have y := v.2.1 i h0 h1
  rw [e] at c d
  unfold rT at c d
  by_cases c1 : s' 1 i 3 = -1
  · rw [if_pos c1] at c; exact c rfl
  · rw [if_neg c1] at c d
    by_cases c2 : s' 1 (s' 1 i 3) 0 = 2
    · rw [if_pos c2] at c d
      have y1 := y.1.resolve_left c1
      have y2 := (v.2.1 (s' 1 i 3) y1.1 (by omega)).2.1 c2
      rcases y2 with g | g
      · exact c g
      · omega
    · rw [if_neg c2] at d; exact c2 d
theorem rput_r {w a b f l : Int} (g : rag sd s s) : True := trivial
/-- rput does not read what rag leaves out -/
theorem rput_cg {s' : pS} {w a b f l : Int} (g : rag sd s' s) : rag sd (rput s' sd w a b f l) (rput s sd w a b f l) := by
  have kn := kidn sd
  have k3 := kid3 sd
  have e := g.2 (kid sd) (by omega)
  refine ⟨fun c i j hc => ?_, fun j hj => ?_⟩
  · unfold rput; simp only [upE, e, g.1 c i j hc]
  · unfold rput; simp only [upE, e, g.2 j hj]
/-- the numbers of rows and deeps behind the adding -/
theorem rr_leaf {s' : pS} {q r28 r29 : Int} (e1 : s' 0 0 1 = s 0 0 1 + 1) (e4 : s' 0 0 4 = rA s sd q 0 0 4) (e5 : s' 0 0 5 = rA s sd q 0 0 5) (hq : ¬ q = 2 ∧ ¬ q = 5) (r : (sd = 0 → r28 = s 0 0 4 ∧ r29 = s 0 0 5) ∧ 0 ≤ r28 ∧ r28 ≤ s 0 0 1) : (sd = 0 → r28 = s' 0 0 4 ∧ r29 = s' 0 0 5) ∧ 0 ≤ r28 ∧ r28 ≤ s' 0 0 1 := by
  rw [e1, e4, e5, rA_45.1, rA_45.2, if_neg (by omega), if_neg (by omega)]
  refine ⟨fun c => ?_, by omega, by omega⟩
  have := r.1 c
  omega
theorem s168 {A : pS} {p it : Int} (o : tOk t n) (x : mQ0 h sd b0 A) (y : mY h t n p) (hp : 0 ≤ p ∧ p < n) (hsd : sd = 0 ∨ sd = 1) (hk : 0 ≤ A 0 0 (kid sd) ∧ A 0 0 (kid sd) < 41) (hd : 0 ≤ A 0 0 6 ∧ A 0 0 6 < 20) (hit : ∀ k, 0 ≤ k → k < A 0 0 6 → ¬ A 6 k 0 = it) {K : zH → Prop}
    (k1 : ∀ s', rterm t sd A it (pbl t 301 (p + 1)) = (true, s') → ∀ h1, frP (rmA sd) h h1 → (∀ k, ¬ k = 15 → ¬ k = 16 → ¬ k = 17 → ¬ k = 18 → gI h1 127 k = gI h 127 k) → mY h1 t n (s' 0 0 0) → mQ0 h1 sd b0 s' → K h1)
    (k2 : ∀ s', rterm t sd A it (pbl t 301 (p + 1)) = (false, s') → ∀ h1, frP (rmA sd) h h1 → bd h1 → gI h1 127 17 = s' 0 0 0 → K h1) : zC0 168 [vR 127 111] h K := by
  have kn := kidn sd
  have k3 := kid3 sd
  have o2 := o.2.1
  refine cV (k168_0 h _ ?_)
  rw [y.2.1]
  refine ⟨by unfold inR; omega, fun h8 e8 => ?_⟩
  have w8 := mY.at (v := p + 1) y
  rw [← e8] at w8
  have x8 := x.f0 w8.2
  refine s163 o w8.1 (by omega) (by omega) (fun h9 f9 y9 => ?_)
  have x9 := x8.f0 f9
  have F9 := (fR0 (sd := sd) w8.2).tr (fR0 f9)
  have s9 : ∀ k, ¬ k = 16 → ¬ k = 17 → ¬ k = 18 → gI h9 127 k = gI h 127 k := fun k q1 q2 q3 => by rw [f9.1 _ _ (by unfold mA0; omega), w8.2.1 _ _ (by unfold mA0; omega)]
  have hr := pbl_rg o 301 (p + 1) (by omega) (by omega)
  generalize pbl t 301 (p + 1) = p1 at hr y9 k1 k2
  unfold rterm at k1 k2
  refine s144 ⟨fun c => ?_, fun c => ?_⟩
  · rw [b2i_ne0] at c
    rw [if_pos c] at k1 k2
    have z32 := x9.2.1
    have z142 := x9.2.2.2.1
    have z15 := x9.2.2.2.2.2.1
    rw [z32, z142, z15]
    refine ⟨by unfold inR; omega, by omega, by omega, by unfold inR; omega, by unfold inR; omega, by omega, by omega, fun h11 e11 => ?_⟩
    have z11 : gI h11 127 15 = A 0 0 6 := by rw [e11, gS, if_neg (by omega)]; exact z15
    rw [z11]
    refine ⟨by unfold inR; omega, fun h12 e12 => ?_⟩
    have F12 : frP (rmA sd) h h12 := by rw [e12, e11]; exact (F9.st (by unfold rmA; omega)).st (by unfold rmA; omega)
    have s12 : ∀ k, ¬ k = 15 → gI h12 127 k = gI h9 127 k := fun k hk => by rw [e12, gS, if_neg (by omega), e11, gS, if_neg (by omega)]
    have y12 : mY h12 t n p1 := ⟨y9.1.fr (P := rmA sd) (by rw [e12, e11]; exact (frP.rf.st (by unfold rmA; omega)).st (by unfold rmA; omega)) (by unfold rmA; constructor <;> omega), by rw [s12 _ (by omega)]; exact y9.2.1, by rw [s12 _ (by omega)]; exact y9.2.2⟩
    -- the state with one more open term
    have x12 : mQ0 h12 sd b0 (up (up (up A 4 it 0 (A 0 0 (kid sd))) 6 (A 0 0 6) 0 it) 0 0 6 (A 0 0 6 + 1)) := by
      obtain ⟨x1, x2, x3, x4, x5, x6, x7⟩ := x9
      have g : ∀ b i, ¬ (b = 127 ∧ i = 15) → ¬ b = 144 → gI h12 b i = gI h9 b i := fun b i h1 h2 => by rw [e12, gS, if_neg (by omega), e11, gS, if_neg (by omega)]
      have u : ∀ c i j, ¬ c = 4 → ¬ c = 6 → ¬ (c = 0 ∧ j = 6) → up (up (up A 4 it 0 (A 0 0 (kid sd))) 6 (A 0 0 6) 0 it) 0 0 6 (A 0 0 6 + 1) c i j = A c i j := fun c i j h1 h2 h3 => by simp only [upE]; rw [if_neg (by omega), if_neg (by omega), if_neg (by omega)]
      have u6 : up (up (up A 4 it 0 (A 0 0 (kid sd))) 6 (A 0 0 6) 0 it) 0 0 6 (A 0 0 6 + 1) 0 0 6 = A 0 0 6 + 1 := by simp [upE]
      refine ⟨by rw [g _ _ (by omega) (by omega), u _ _ _ (by omega) (by omega) (by omega)]; exact x1, by rw [g _ _ (by omega) (by omega)]; exact x2, fun l h0 h1 => by rw [g _ _ (by omega) (by omega), u _ _ _ (by omega) (by omega) (by omega)]; exact x3 l h0 h1, by rw [g _ _ (by omega) (by omega), u _ _ _ (by omega) (by omega) (by omega)]; exact x4, fun k j h0 h1 h2 => ?_, by rw [u6, e12, gS1], fun k h0 h1 => ?_⟩
      · rw [u _ _ _ (by omega) (by omega) (by omega)] at h1
        rw [g _ _ (by omega) (by omega), u _ _ _ (by omega) (by omega) (by omega)]; exact x5 k j h0 h1 h2
      · rw [u6] at h1
        rw [e12, gS, if_neg (by omega), e11, gS]
        by_cases d : k = A 0 0 6
        · rw [if_pos ⟨rfl, d⟩]; simp [upE, d]
        · have hne := hit k h0 (by omega)
          rw [if_neg (by omega)]
          have := x7 k h0 (by omega)
          simp [upE, d, hne]; exact this
    have uk : up (up (up A 4 it 0 (A 0 0 (kid sd))) 6 (A 0 0 6) 0 it) 0 0 6 (A 0 0 6 + 1) 0 0 (kid sd) = A 0 0 (kid sd) := by simp only [upE]; rw [if_neg (by omega), if_neg (by omega), if_neg (by omega)]
    refine s165 (b := 1) o x12 y12 (by omega) hsd (by rw [uk]; exact hk) rfl (fun d h13 f13 s13 y13 x13 => zq0 ?_) (fun d h13 f13 g18 g17 => zq0 ?_)
    · have e8' : ((pmo 1 : Nat) : Int) = 8 := rfl
      rw [e8'] at d
      rw [if_pos d] at k1
      refine k1 _ rfl h13 (F12.tr f13) (fun k q1 q2 q3 q4 => ?_) ?_ (x13.cg ⟨?_, ?_, ?_⟩ (fun l => ?_) (fun k j => ?_) (fun k => ?_) (fun i => ?_))
      · rw [s13 k q2 q3 q4, s12 k q1]; exact s9 k q2 q3 q4
      · simp only [upE]; simp; exact y13
      · simp only [upE]; simp
        rw [rtok_o _ _ (by omega) (by omega) (by omega), rput_o _ _ (by omega) (by omega)]; simp only [upE]; simp
      · simp only [upE]; rw [if_neg (by omega), if_neg (by omega), if_neg (by omega), if_neg (by omega), if_neg (by omega), if_neg (by omega), rtok_k, rput_k, uk]
      · rw [rput_o _ _ (by omega) (by omega)]; simp only [upE]; simp
      · simp only [upE]; simp
        rw [rtok_o _ _ (by omega) (by omega) (by omega), rput_o _ _ (by omega) (by omega)]; simp only [upE]; simp
      · simp only [upE]; rw [if_neg (by omega), if_neg (by omega), if_neg (by omega), if_neg (by omega), if_neg (by omega), if_neg (by omega)]
        unfold rtok; rw [upE, if_neg (by omega)]
        unfold rput; simp only [upE, uk]
        have a1 : ¬ (kid sd = 0 ∧ k = 0 ∧ j = 6) := by omega
        have a2 : ¬ (kid sd = 6 ∧ k = A 0 0 6 ∧ j = 0) := by omega
        have a3 : ¬ (kid sd = 4 ∧ k = it ∧ j = 0) := by omega
        simp only [a1, a2, a3, if_false]
        have a4 : ¬ kid sd = 6 := by omega
        simp [a4]
      · rw [rput_o _ _ (by omega) (by omega)]; simp only [upE]; simp
        rw [rtok_o _ _ (by omega) (by omega) (by omega)]
      · rw [rput_o _ _ (by omega) (by omega)]; simp only [upE]; simp
        rw [rtok_4]
    · have e8' : ((pmo 1 : Nat) : Int) = 8 := rfl
      rw [e8'] at d g17
      rw [if_neg d] at k2
      exact k2 _ rfl h13 (F12.tr f13) g18 (by rw [g17]; simp [upE])
  · have c : b2i (isL (t p1)) = 0 := Classical.byContradiction c
    rw [b2i_eq0] at c
    rw [if_neg c] at k2
    refine s148 y9.2.2 (zq0 (k2 _ rfl _ ((F9.st (by unfold rmA; omega)).st (by unfold rmA; omega)) ⟨by simp [gS], by have := y9.2.1; simp [gS, this]; omega, by have := y9.2.1; simp [gS, this]; omega⟩ ?_))
    have := y9.2.1
    simp [gS, upE, this]
theorem stk {p it : Int} (v : rV n sd b0 s) : ∀ k, 0 ≤ k → k < rA s sd p 0 0 6 → ¬ rA s sd p 6 k 0 = s 0 0 1 := by
  intro k h0 h1
  rw [rA_0 _ (by omega)] at h1
  rw [rA_t _ _ (by omega)]
  have := v.2.2.1.1 k h0 h1
  omega
theorem rtok_i {it w a b f l : Int} (x : mQ0 h sd b0 (rput s sd w a b f l)) (hit : ∀ k, 0 ≤ k → k < s 0 0 6 → ¬ s 6 k 0 = it) : mQ0 h sd b0 (rtok s sd it w a b f l) := by
  have kn := kidn sd
  have k3 := kid3 sd
  unfold rtok
  refine x.m4 (fun k h0 h1 => ?_)
  rw [rput_o _ _ (by omega) (by omega)] at h1
  rw [rput_o _ _ (by omega) (by omega)]
  exact hit k h0 h1
theorem opc_s {c q : Int} (h : opc c = q) : (c = 40 ∧ q = 4) ∨ (c = 42 ∧ q = 5) ∨ (c = 63 ∧ q = 1) ∨ (c = 94 ∧ q = 2) ∨ (c = 95 ∧ q = 0) ∨ q = 3 ∨ q = -1 := by
  unfold opc at h
  repeat' split at h
  all_goals omega
theorem opc_95 {c : Int} (h : opc c = 0) : c = 95 := by have := opc_s h; omega
theorem opc_94 {c : Int} (h : opc c = 2) : c = 94 := by have := opc_s h; omega
theorem opc_63 {c : Int} (h : opc c = 1) : c = 63 := by have := opc_s h; omega
theorem opc_42 {c : Int} (h : opc c = 5) : c = 42 := by have := opc_s h; omega
theorem opc_40 {c : Int} (h : opc c = 4) : c = 40 := by have := opc_s h; omega
/-- an item, from where blanks have been passed -/
theorem s171i (o : tOk t n) (x : mR h sd b0 t n s) (v : rV n sd b0 s) (hC : rC sd s) (hb : 0 ≤ b0 ∧ b0 ≤ 20) (hsd : sd = 0 ∨ sd = 1) (ng : ¬ rbad t sd b0 s) {K : zH → Prop}
    (k : ∀ h1, mZ h sd b0 t n (ritem t sd b0 s) h1 → K h1) (q : Int) (hq : q = b2i (opc (t (s 0 0 0)) = 5)) : zK 171 39 [vR 127 111, vI (t (s 0 0 0))] [vI q, vR 127 111] h (fun r h1 => r = none ∧ K h1) := by
  have kn := kidn sd
  have k3 := kid3 sd
  have o2 := o.2.1
  obtain ⟨y, x, r, bb⟩ := x
  obtain ⟨i1, i2, i3, i4, i5, i6, i7, i8, i9, i10, i11, i12, i13, i14, i15, i16, i17⟩ := v.1
  have c : ¬ opc (t (s 0 0 0)) = -1 := fun c => ng (Or.inl c)
  have d : ¬ s 0 0 1 - b0 = 20 := fun d => ng (Or.inr (Or.inl d))
  have hp : 0 ≤ s 0 0 0 ∧ s 0 0 0 < n := o.lt (by rcases opc_m t (s 0 0 0) with c1 | c1; exact absurd c1 c; exact c1)
  have hc1 : ∀ k, 0 ≤ s (kid sd) k 1 ∧ s (kid sd) k 1 ≤ 1000 := fun k => by have := hC k; omega
  have kA : ∀ q, rA s sd q 0 0 (kid sd) = s 0 0 (kid sd) := fun q => rA_0 _ (by omega)
  have hk : ∀ q, 0 ≤ rA s sd q 0 0 (kid sd) ∧ rA s sd q 0 0 (kid sd) < 41 := fun q => by rw [kA]; omega
  have nb := fun s' => rV_item (s' := s') o v
  refine k171_39 _ q h _ (s169 (o := opc (t (s 0 0 0))) x v hb hsd bb hq hc1 (fun h26 f26 s26 b26 x26 => ?_))
  have y26 : mY h26 t n (s 0 0 0) := ⟨y.1.fr f26 (by unfold rmA; constructor <;> omega), by rw [s26 _ (by omega) (by omega)]; exact y.2.1, by rw [s26 _ (by omega) (by omega)]; exact y.2.2⟩
  clear hc1 hC
  -- what a whole item leaves
  have leaf : ∀ (q : Int) (s' : pS) (h1 : zH), ¬ q = 2 ∧ ¬ q = 5 → ritem t sd b0 s = (true, s') → s' 0 0 1 = s 0 0 1 + 1 → s' 0 0 2 = rT s' (s 0 0 1) → s' 0 0 4 = rA s sd q 0 0 4 → s' 0 0 5 = rA s sd q 0 0 5 → frP (rmA sd) h h1 → gI h1 127 28 = gI h 127 28 → gI h1 127 29 = gI h 127 29 → gI h1 127 33 = 0 → mY h1 t n (s' 0 0 0) → mQ0 h1 sd b0 s' → K h1 := by
    intro q s' h1 hq2 e e1 e2 e4 e5 f g28 g29 g33 yy xx
    have v' := (nb s' e).1
    refine k h1 ?_
    rw [e]
    refine mZ.ye f ⟨yy, xx, ?_, ?_⟩
    · rw [g28, g29]; exact rr_leaf e1 e4 e5 hq2 r
    · rw [g33, bbL v' i4 (by omega) e2]
  refine ⟨fun c95 => ⟨fun c94 => ⟨fun c63 => ⟨fun c42 => ⟨fun c40 => ?_, fun c40 => ?_⟩, fun c42 => ?_⟩, fun c63 => ?_⟩, fun c94 => ?_⟩, fun c95 => ?_⟩
  · -- a word
    have e3 : opc (t (s 0 0 0)) = 3 := by
      rcases opc_c (t (s 0 0 0)) with g | g | g | g | g | g | g
      · exact absurd g c
      · exact absurd (opc_95 g) c95
      · exact absurd (opc_63 g) c63
      · exact absurd (opc_94 g) c94
      · exact g
      · exact absurd (opc_40 g) c40
      · exact absurd (opc_42 g) c42
    rw [e3] at x26
    have word : ∀ b w : Int, b = (if isL (t (s 0 0 0)) then 1 else 0) → w = (if b = 0 then 4 else 3) → zC0 165 [vR 127 111, vI w, vI 0] h26 (fun h28 => (none : Option zV) = none ∧ K h28) := by
      intro b w eb ew
      have en : ritem t sd b0 s = rlit t sd (rA s sd 3) (s 0 0 1) (s 0 0 0) b := by
        unfold ritem; rw [if_neg ng, if_pos e3, ← eb]; rfl
      unfold rlit at en
      have eb2 : b = if w = 4 then 0 else 1 := by
        rw [ew, eb]
        by_cases g : isL (t (s 0 0 0))
        · rw [if_pos g]; decide
        · rw [if_neg g]; decide
      refine s165 (b := b) o x26 y26 (by clear hsd eb2 ew eb; omega) hsd (hk 3) eb2 (fun g h28 f28 s28 y28 x28 => zq0 ?_) (fun g h28 f28 g18 g17 => zq0 ?_)
      · rw [if_pos g, ← ew] at en
        refine leaf 3 _ h28 (by decide) en ?_ ?_ ?_ ?_ (f26.tr f28) ?_ ?_ ?_ ?_ ?_
        · rw [rfin_o _ _ (by omega) (by omega)]; simp only [upE]; simp; rw [rtok_o _ _ (by omega) (by omega) (by omega)]; exact rA_1
        · rw [rfin_2, rT_fin]
        · rw [rfin_o _ _ (by omega) (by omega)]; simp only [upE]; simp; rw [rtok_o _ _ (by omega) (by omega) (by omega)]
        · rw [rfin_o _ _ (by omega) (by omega)]; simp only [upE]; simp; rw [rtok_o _ _ (by omega) (by omega) (by omega)]
        · rw [s28 _ (by decide) (by decide) (by decide)]; exact s26 _ (by decide) (by decide)
        · rw [s28 _ (by decide) (by decide) (by decide)]; exact s26 _ (by decide) (by decide)
        · rw [s28 _ (by decide) (by decide) (by decide)]; exact b26
        · rw [rfin_o _ _ (by omega) (by omega)]; simp only [upE]; simp; exact y28
        · exact (rtok_i x28 (stk (it := 0) v)).ag ((((rag.rf.up (by omega)).up (by omega)).up (by omega)).fin)
      · rw [if_neg g] at en
        refine k h28 ?_
        rw [en]
        exact mZ.no (f26.tr f28) g18 (by rw [g17]; simp [upE])
    have hl : isL (t (s 0 0 0)) ∨ isD (t (s 0 0 0)) := opc3 e3
    refine s145 ⟨fun g => ?_, fun g => ?_⟩
    · rw [b2i_eq0] at g
      have g1 : isL (t (s 0 0 0)) := hl.resolve_right g
      exact word 1 3 (by rw [if_pos g1]) (by decide)
    · rw [b2i_ne0] at g
      exact word 0 4 (by rw [if_neg (by clear hsd k3; omega)]) (by decide)
  · -- a term
    have c40 : t (s 0 0 0) = 40 := Classical.byContradiction c40
    have e4 : opc (t (s 0 0 0)) = 4 := by rw [c40]; rfl
    rw [e4] at x26
    have en : ritem t sd b0 s = rterm t sd (rA s sd 4) (s 0 0 1) (pbl t 301 (s 0 0 0 + 1)) := by
      unfold ritem; rw [if_neg ng, e4]; rfl
    have d6 : rA s sd 4 0 0 6 = s 0 0 6 := rA_0 _ (by omega)
    refine s168 (it := s 0 0 1) o x26 y26 hp hsd (hk 4) (by rw [d6]; omega) (stk (it := 0) v) (fun s' e h30 f30 s30 y30 x30 => zq0 ?_) (fun s' e h30 f30 g18 g17 => zq0 (k h30 (by rw [en, e]; exact mZ.no (f26.tr f30) g18 g17)))
    have e' := en.trans e
    have v' := (nb s' e').1
    refine k h30 ?_
    rw [e']
    refine mZ.ye (f26.tr f30) ⟨y30, x30, ?_, ?_⟩
    · unfold rterm at e
      split at e
      · split at e
        · cases e
          rw [s30 28 (by omega) (by omega) (by omega) (by omega), s30 29 (by omega) (by omega) (by omega) (by omega), s26 28 (by omega) (by omega), s26 29 (by omega) (by omega)]
          refine rr_leaf (q := 4) ?_ ?_ ?_ (by omega) r
          · simp only [upE]; simp; rw [rtok_o _ _ (by omega) (by omega) (by omega)]; exact rA_1
          · simp only [upE]; simp; rw [rtok_o _ _ (by omega) (by omega) (by omega)]
          · simp only [upE]; simp; rw [rtok_o _ _ (by omega) (by omega) (by omega)]
        · cases e
      · cases e
    · rw [s30 33 (by omega) (by omega) (by omega) (by omega), b26]
      symm
      apply b2i_neg
      rintro ⟨g1, g2⟩
      unfold rterm at e
      split at e
      · split at e
        · cases e
          simp only [upE] at g2
          simp at g2
          rw [rtok_o _ _ (by omega) (by omega) (by omega), (rA_new (by omega)).1] at g2
          omega
        · cases e
      · cases e
  · -- a row
    have c42 : t (s 0 0 0) = 42 := Classical.byContradiction c42
    have e5 : opc (t (s 0 0 0)) = 5 := by rw [c42]; rfl
    rw [e5] at x26
    have en : ritem t sd b0 s = rhole t sd (rA s sd 5) (s 0 0 1) (s 0 0 0) (t (s 0 0 0 + 1) - 65) 2 := by
      unfold ritem; rw [if_neg ng, e5]; rfl
    have z28 : gI h26 127 28 = gI h 127 28 := s26 _ (by decide) (by decide)
    rw [z28]
    refine ⟨by clear hsd; unfold inR; omega, fun h31 e31 => ?_⟩
    have f31 : frP (rmA sd) h h31 := by rw [e31]; exact f26.st (by unfold rmA; omega)
    have x31 : mQ0 h31 sd b0 (rA s sd 5) := by rw [e31]; exact x26.o1 (by decide)
    have y31 : mY h31 t n (s 0 0 0) := ⟨y26.1.fr (P := rmA sd) (by rw [e31]; exact frP.rf.st (by unfold rmA; omega)) (by unfold rmA; constructor <;> omega), by rw [e31, gS, if_neg (by omega)]; exact y26.2.1, by rw [e31, gS, if_neg (by omega)]; exact y26.2.2⟩
    unfold rhole at en
    refine s166 (how := 2) o x31 y31 hp hsd (fun g h32 f32 s32 y32 x32 => ?_) (fun g h32 f32 g18 g17 x32 => ?_)
    · rw [if_pos g, if_pos (Or.inl rfl), if_pos rfl, if_pos rfl] at en
      have uk : up (rA s sd 5) 5 (t (s 0 0 0 + 1) - 65) 0 2 0 0 (kid sd) = rA s sd 5 0 0 (kid sd) := by rw [upE, if_neg (by omega)]
      have F : frP (rmA sd) h h32 := f31.tr f32
      refine s164 (w := 6) (a := t (s 0 0 0 + 1) - 65) (b := 0) x32 hsd (by rw [uk]; exact hk 5) (fun h33 f33 s33 x33 => zq0 (k h33 ?_))
      rw [en]
      have v' := (nb _ en).1
      refine mZ.ye (F.tr f33) ⟨?_, ?_, ?_, ?_⟩
      · rw [rfin_o _ _ (by omega) (by omega), rtok_o _ _ (by omega) (by omega) (by omega)]
        simp only [upE]; simp
        exact ⟨y32.1.fr f33 (by unfold rmA; constructor <;> omega), by rw [s33]; exact y32.2.1, by rw [s33]; exact y32.2.2⟩
      · refine (rtok_i (it := s 0 0 1) (s := up (up (up (rA s sd 5) 5 (t (s 0 0 0 + 1) - 65) 0 2) 0 0 0 (s 0 0 0 + 2)) 1 (s 0 0 1) 1 (t (s 0 0 0 + 1) - 65)) (x33.ag (rput_cg ((rag.rf.up (by omega)).up (by omega)))) (fun k h0 h1 => ?_)).ag rag.rf.fin
        have := stk (p := 5) (it := 0) v k h0
        simp only [upE] at h1 ⊢
        simp at h1 ⊢
        exact this h1
      · rw [s33, s33, s32 _ (by decide), s32 _ (by decide), e31, gS1, gS, if_neg (by omega)]
        rw [rfin_o _ _ (by omega) (by omega), rfin_o _ _ (by omega) (by omega), rfin_o _ _ (by omega) (by omega), rtok_o _ _ (by omega) (by omega) (by omega), rtok_o _ _ (by omega) (by omega) (by omega), rtok_o _ _ (by omega) (by omega) (by omega)]
        simp only [upE]; simp
        rw [rA_45.1, rA_45.2, rA_1, s26 29 (by decide) (by decide)]
        refine ⟨fun g0 => ?_, by clear hsd; omega, by clear hsd; omega⟩
        have := r.1 g0
        rw [if_pos ⟨g0, rfl⟩, if_neg (by omega)]
        omega
      · rw [s33, s32 _ (by decide), e31, gS, if_neg (by omega), b26]
        symm
        refine bbL v' i4 ?_ ?_
        · rw [rfin_o _ _ (by omega) (by omega), rtok_o _ _ (by omega) (by omega) (by omega)]; simp only [upE]; simp; rw [rA_1]; omega
        · rw [rfin_2, rT_fin]
    · rw [if_neg g] at en
      refine s164 (w := 6) (a := 0) (b := 0) x32 hsd (hk 5) (fun h33 f33 s33 x33 => zq0 (k h33 ?_))
      rw [en]
      refine mZ.no ((f31.tr f32).tr f33) ?_ ?_
      · exact ⟨by rw [s33]; exact g18.1, by rw [s33]; exact g18.2.1, by rw [s33]; exact g18.2.2⟩
      · rw [s33, g17]; simp [upE]
  · -- a hole
    have c63 : t (s 0 0 0) = 63 := Classical.byContradiction c63
    have e1 : opc (t (s 0 0 0)) = 1 := by rw [c63]; rfl
    rw [e1] at x26
    have en : ritem t sd b0 s = rhole t sd (rA s sd 1) (s 0 0 1) (s 0 0 0) (t (s 0 0 0 + 1) - 65) 1 := by
      unfold ritem; rw [if_neg ng, e1]; rfl
    unfold rhole at en
    refine s166 (how := 1) o x26 y26 hp hsd (fun g h34 f34 s34 y34 x34 => ?_) (fun g h34 f34 g18 g17 x34 => ?_)
    · rw [if_pos g] at en
      have uk : up (rA s sd 1) 5 (t (s 0 0 0 + 1) - 65) 0 1 0 0 (kid sd) = rA s sd 1 0 0 (kid sd) := by rw [upE, if_neg (by omega)]
      have hk2 : 0 ≤ up (rA s sd 1) 5 (t (s 0 0 0 + 1) - 65) 0 1 0 0 (kid sd) ∧ up (rA s sd 1) 5 (t (s 0 0 0 + 1) - 65) 0 1 0 0 (kid sd) < 41 := by rw [uk]; exact hk 1
      have lt1 : 0 ≤ s 0 0 0 + 1 ∧ s 0 0 0 + 1 < n := o.lt (by clear hsd k3; omega)
      refine s164 (w := 1) (a := t (s 0 0 0 + 1) - 65) (b := 0) x34 hsd hk2 (fun h35 f35 s35 x35 => ?_)
      have y35 : mY h35 t n (s 0 0 0 + 2) := ⟨y34.1.fr f35 (by unfold rmA; constructor <;> omega), by rw [s35]; exact y34.2.1, by rw [s35]; exact y34.2.2⟩
      have F := (f26.tr f34).tr f35
      have stk2 : ∀ k, 0 ≤ k → k < (up (up (up (rA s sd 1) 5 (t (s 0 0 0 + 1) - 65) 0 1) 0 0 0 (s 0 0 0 + 2)) 1 (s 0 0 1) 1 (t (s 0 0 0 + 1) - 65)) 0 0 6 → ¬ (up (up (up (rA s sd 1) 5 (t (s 0 0 0 + 1) - 65) 0 1) 0 0 0 (s 0 0 0 + 2)) 1 (s 0 0 1) 1 (t (s 0 0 0 + 1) - 65)) 6 k 0 = s 0 0 1 := by
        intro k h0 h1
        have := stk (p := 1) (it := 0) v k h0
        simp only [upE] at h1 ⊢
        simp at h1 ⊢
        exact this h1
      refine s167 o x35 y35 (by clear hsd k3; omega) hsd hk2 (fun g1 h36 f36 s36 y36 x36 => zq0 ?_) (fun g1 g2 h36 f36 s36 y36 x36 => zq0 ?_) (fun g1 g2 h36 f36 g18 g17 => zq0 ?_)
      · rw [if_pos (Or.inr g1), if_neg (by decide), if_neg (by decide)] at en
        refine leaf 1 _ h36 (by decide) en ?_ ?_ ?_ ?_ (F.tr f36) ?_ ?_ ?_ ?_ ?_
        · rw [rfin_o _ _ (by omega) (by omega), rtok_o _ _ (by omega) (by omega) (by omega)]; simp only [upE]; simp; exact rA_1
        · rw [rfin_2, rT_fin]
        · rw [rfin_o _ _ (by omega) (by omega), rtok_o _ _ (by omega) (by omega) (by omega)]; simp only [upE]; simp
        · rw [rfin_o _ _ (by omega) (by omega), rtok_o _ _ (by omega) (by omega) (by omega)]; simp only [upE]; simp
        · rw [s36, s35, s34 _ (by decide)]; exact s26 _ (by decide) (by decide)
        · rw [s36, s35, s34 _ (by decide)]; exact s26 _ (by decide) (by decide)
        · rw [s36, s35, s34 _ (by decide)]; exact b26
        · rw [rfin_o _ _ (by omega) (by omega), rtok_o _ _ (by omega) (by omega) (by omega)]; simp only [upE]; simp; exact y36
        · exact (rtok_i (it := s 0 0 1) (x36.ag (rput_cg ((rag.rf.up (by omega)).up (by omega)))) stk2).ag rag.rf.fin
      · rw [show s 0 0 0 + 2 + 1 = s 0 0 0 + 3 from Int.add_assoc _ _ _] at g2 x36
        rw [show s 0 0 0 + 2 + 2 = s 0 0 0 + 4 from Int.add_assoc _ _ _] at y36
        rw [if_neg (fun q0 => q0.elim (fun q1 => absurd q1 (by decide)) g1), if_neg g2] at en
        refine leaf 1 _ h36 (by decide) en ?_ ?_ ?_ ?_ (F.tr f36) ?_ ?_ ?_ ?_ ?_
        · rw [rfin_o _ _ (by omega) (by omega)]; simp only [upE]; simp; rw [rtok_o _ _ (by omega) (by omega) (by omega)]; simp only [upE]; simp; exact rA_1
        · rw [rfin_2, rT_fin]
        · rw [rfin_o _ _ (by omega) (by omega)]; simp only [upE]; simp; rw [rtok_o _ _ (by omega) (by omega) (by omega)]; simp only [upE]; simp
        · rw [rfin_o _ _ (by omega) (by omega)]; simp only [upE]; simp; rw [rtok_o _ _ (by omega) (by omega) (by omega)]; simp only [upE]; simp
        · rw [s36 _ (by decide), s35, s34 _ (by decide)]; exact s26 _ (by decide) (by decide)
        · rw [s36 _ (by decide), s35, s34 _ (by decide)]; exact s26 _ (by decide) (by decide)
        · rw [s36 _ (by decide), s35, s34 _ (by decide)]; exact b26
        · rw [rfin_o _ _ (by omega) (by omega)]; simp only [upE]; simp; exact y36
        · exact (rtok_i (it := s 0 0 1) (x36.ag (rput_cg ((rag.rf.up (by omega)).up (by omega)))) stk2).ag ((rag.rf.up (by omega)).up (by omega)).fin
      · rw [show s 0 0 0 + 2 + 1 = s 0 0 0 + 3 from Int.add_assoc _ _ _] at g2 g17
        rw [if_neg (fun q0 => q0.elim (fun q1 => absurd q1 (by decide)) g1), if_pos g2] at en
        refine k h36 ?_
        rw [en]
        exact mZ.no (F.tr f36) g18 (by rw [g17]; simp [upE])
    · rw [if_neg g] at en
      refine s164 (w := 1) (a := 0) (b := 0) x34 hsd (hk 1) (fun h35 f35 s35 x35 => ?_)
      have g18' : gI h35 127 18 = 0 := by rw [s35]; exact g18.1
      refine cV (k167_0 _ h35 _ ⟨by have := hk 1; clear k3; unfold inR; omega, by have := hk 1; clear k3; omega, by have := hk 1; clear k3; omega, fun h10 e10 => ?_⟩)
      have s10 : ∀ k, gI h10 127 k = gI h35 127 k := fun k => by rw [e10, gS, if_neg (by omega)]
      have F10 : frP (rmA sd) h h10 := by rw [e10]; exact ((f26.tr f34).tr f35).st (by have := hk 1; unfold rmA; clear k3; omega)
      have fin : (none : Option zV) = none ∧ (fun h36 => (none : Option zV) = none ∧ K h36) h10 := by
        refine ⟨rfl, rfl, k h10 ?_⟩
        rw [en]
        refine mZ.no F10 ?_ ?_
        · exact ⟨by rw [s10]; exact g18', by rw [s10, s35]; exact g18.2.1, by rw [s10, s35]; exact g18.2.2⟩
        · rw [s10, s35, g17]; simp [upE]
      exact ⟨fun _ => fin, fun _ => ⟨fun _ => fin, fun g2 => absurd (by rw [s10]; exact g18') g2⟩⟩
  · -- deep
    have c94 : t (s 0 0 0) = 94 := Classical.byContradiction c94
    have e2 : opc (t (s 0 0 0)) = 2 := by rw [c94]; rfl
    rw [e2] at x26
    have en : ritem t sd b0 s = (true, up (up (rtok (rA s sd 2) sd (s 0 0 1) 2 0 0 0 0) 0 0 0 (s 0 0 0 + 1)) 0 0 2 (s 0 0 1)) := by
      unfold ritem; rw [if_neg ng, e2]; rfl
    have hs0 : sd = 0 := Classical.byContradiction (fun g => ng (Or.inr (Or.inr (Or.inr (Or.inl ⟨e2, Or.inl g⟩)))))
    have hr0 := r.1 hs0
    rw [y26.2.1]
    refine ⟨by clear hsd k3; unfold inR; omega, fun h37 e37 => ?_⟩
    have w37 := mY.at (v := s 0 0 0 + 1) y26
    rw [← e37] at w37
    have z29 : gI h37 127 29 = s 0 0 5 := by rw [e37, gS, if_neg (by omega), s26 _ (by decide) (by decide)]; exact hr0.2
    rw [z29]
    refine ⟨by clear hsd k3; unfold inR; omega, fun h38 e38 => ?_⟩
    have x38 : mQ0 h38 sd b0 (rA s sd 2) := by rw [e38]; exact (x26.f0 w37.2).o1 (by decide)
    have y38 : mY h38 t n (s 0 0 0 + 1) := ⟨w37.1.1.fr (P := rmA sd) (by rw [e38]; exact frP.rf.st (by unfold rmA; omega)) (by unfold rmA; constructor <;> omega), by rw [e38, gS, if_neg (by omega)]; exact w37.1.2.1, by rw [e38, gS, if_neg (by omega)]; exact w37.1.2.2⟩
    have F38 : frP (rmA sd) h h38 := by rw [e38]; exact (f26.tr (fR0 w37.2)).st (by unfold rmA; omega)
    refine s164 (w := 2) (a := 0) (b := 0) x38 hsd (hk 2) (fun h39 f39 s39 x39 => ⟨Or.inr rfl, fun h40 e40 => zq0 (k h40 ?_)⟩)
    rw [en]
    have F40 : frP (rmA sd) h h40 := by rw [e40]; exact (F38.tr f39).st (by unfold rmA; omega)
    have x40 : mQ0 h40 sd b0 (rput (rA s sd 2) sd 2 0 0 0 0) := by rw [e40]; exact x39.o1 (by decide)
    refine mZ.ye F40 ⟨?_, ?_, ?_, ?_⟩
    · simp only [upE]; simp
      exact ⟨y38.1.fr (P := rmA sd) (by rw [e40]; exact f39.st (by unfold rmA; omega)) (by unfold rmA; constructor <;> omega), by rw [e40, gS, if_neg (by omega), s39]; exact y38.2.1, by rw [e40, gS, if_neg (by omega), s39]; exact y38.2.2⟩
    · exact (rtok_i x40 (stk (it := 0) v)).ag ((rag.rf.up (by omega)).up (by omega))
    · rw [e40, gS, if_neg (by omega), gS, if_neg (by omega), s39, s39, e38, gS, if_neg (by omega), gS1, e37, gS, if_neg (by omega), s26 _ (by decide) (by decide)]
      simp only [upE]; simp
      rw [rtok_o _ _ (by omega) (by omega) (by omega), rtok_o _ _ (by omega) (by omega) (by omega), rtok_o _ _ (by omega) (by omega) (by omega), rA_45.1, rA_45.2, rA_1]
      refine ⟨fun g0 => ?_, by clear hsd k3; omega, by clear hsd k3; omega⟩
      rw [if_neg (by omega), if_pos ⟨g0, rfl⟩]
      omega
    · rw [e40, gS1]
      symm
      apply b2i_pos
      simp only [upE]; simp
      rw [rtok_o _ _ (by omega) (by omega) (by omega), (rA_new (by omega)).1]
      exact ⟨by omega, rfl⟩
  · -- any
    have c95 : t (s 0 0 0) = 95 := Classical.byContradiction c95
    have e0 : opc (t (s 0 0 0)) = 0 := by rw [c95]; rfl
    rw [e0] at x26
    have en : ritem t sd b0 s = (true, rfin (up (rtok (rA s sd 0) sd (s 0 0 1) 0 0 0 0 0) 0 0 0 (s 0 0 0 + 1)) (s 0 0 1)) := by
      unfold ritem; rw [if_neg ng, e0]; rfl
    rw [y26.2.1]
    refine ⟨by unfold inR; omega, fun h41 e41 => ?_⟩
    have w41 := mY.at (v := s 0 0 0 + 1) y26
    rw [← e41] at w41
    refine s164 (x26.f0 w41.2) hsd (hk 0) (fun h42 f42 s42 x42 => zq0 (leaf 0 _ h42 (by omega) en ?_ ?_ ?_ ?_ ?_ ?_ ?_ ?_ ?_ ?_))
    · rw [rfin_o _ _ (by omega) (by omega)]; simp only [upE]; simp; rw [rtok_o _ _ (by omega) (by omega) (by omega)]; exact rA_1
    · rw [rfin_2, rT_fin]
    · rw [rfin_o _ _ (by omega) (by omega)]; simp only [upE]; simp; rw [rtok_o _ _ (by omega) (by omega) (by omega)]
    · rw [rfin_o _ _ (by omega) (by omega)]; simp only [upE]; simp; rw [rtok_o _ _ (by omega) (by omega) (by omega)]
    · exact (f26.tr (fR0 w41.2)).tr f42
    · rw [s42, e41, gS, if_neg (by omega)]; exact s26 _ (by omega) (by omega)
    · rw [s42, e41, gS, if_neg (by omega)]; exact s26 _ (by omega) (by omega)
    · rw [s42, e41, gS, if_neg (by omega)]; exact b26
    · rw [rfin_o _ _ (by omega) (by omega)]
      have e : up (rtok (rA s sd 0) sd (s 0 0 1) 0 0 0 0 0) 0 0 0 (s 0 0 0 + 1) 0 0 0 = s 0 0 0 + 1 := by simp [upE]
      rw [e]
      exact ⟨w41.1.1.fr f42 (by unfold rmA; constructor <;> omega), by rw [s42]; exact w41.1.2.1, by rw [s42]; exact w41.1.2.2⟩
    · exact (rtok_i x42 (stk (it := 0) v)).ag ((rag.rf.up (by omega)).fin)
end MJ
