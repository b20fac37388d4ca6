/-! The model: an item's tests, and all of a pattern. -/
def ncS (s : pS) (i : Int) : Prop := ∀ p, 0 ≤ p → p < i → i < p + s 1 p 9 → s 1 p 0 = 4 ∧ ¬ 0 < s 1 p 7
/-- the path behind an item -/
def nxP (s : pS) (a : Int) : List Int := if a = 0 then [] else pth s (s 1 a 3) ++ [s 1 a 5 + 1]
def opA (b : Nat) (k : Int) : Prop := (b = 127 ∧ k = 49) ∨ b = 157
section MT2
variable {h : zH} {w : Int → Int} {m x : Int} {s : pS}
theorem ncS_n (x : rEn w m 0 0 s) {i e : Int} (h : ncS s i) (i0 : 0 ≤ i) (i1 : i < s 0 0 1) (he : e = i + s 1 i 9 ∨ (e = i + 1 ∧ s 1 i 0 = 4 ∧ ¬ 0 < s 1 i 7)) (e1 : e < s 0 0 1) : ncS s e := by
  have sp := x.sp i0 i1
  intro p p0 p1 p2
  have hp : p < s 0 0 1 := by omega
  rcases he with q | q
  · have pi : p < i := by
      apply Classical.byContradiction; intro c
      by_cases d : p = i
      · subst d; omega
      · have := x.within (e := p) (p := i) i0 (by omega) (by omega)
        omega
    exact h p p0 pi (by omega)
  · by_cases d : p = i
    · subst d; exact ⟨q.2.1, q.2.2⟩
    · exact h p p0 (by omega) (by omega)
theorem ncS_p (x : rEn w m 0 0 s) {a : Int} (h : ncS s a) (a0 : 0 < a) (a1 : a < s 0 0 1) : s 1 (s 1 a 3) 0 = 4 ∧ ¬ 0 < s 1 (s 1 a 3) 7 ∧ ncS s (s 1 a 3) := by
  have pa := x.par a0 a1
  have ns := x.ns a0 a1
  have sp := x.sp (by omega) a1
  have q := h _ pa.1 pa.2.1 (by omega)
  refine ⟨q.1, q.2, fun p p0 p1 p2 => h p p0 (by omega) ?_⟩
  have := x.within (e := s 1 a 3) (p := p) p0 p1 p2
  omega
theorem nc5 (x : rEn w m 0 0 s) {a : Int} (h : ncS s a) (a0 : 0 ≤ a) (a1 : a < s 0 0 1) : ¬ s 1 a 0 = 5 := by
  intro c
  have ro := x.ro a0 a1 c
  have q := ncS_p x h ro.1 a1
  have pa := x.par ro.1 a1
  have b := (x.bh2 ro.1 a1 q.1).1
  have pi := x.pi pa.1 ⟨pa.2.1, a1, rfl⟩ q.1
  have rs := x.rs pa.1 q.1 (s 1 a 5).toNat ⟨pa.2.1, a1, rfl⟩ (by omega)
  have e : iR s a = 1 := by unfold iR; rw [if_pos c]
  have q2 := q.2.1
  unfold rbh at b
  omega
theorem pAt_push {L : List Int} {c : Int} (p : pAt h L) : pAt (sI (sI h 157 L.length c) 127 49 (L.length + 1)) (L ++ [c]) := by
  refine ⟨by rw [gS1, List.length_append]; rfl, ?_⟩
  have q := lAt_s (h := h) (b := 157) (x := c) p.2
  exact fun k hk => by rw [gS, if_neg (by omega)]; exact q k hk
theorem pAt_up {L : List Int} {c : Int} (p : pAt h (L ++ [c])) : pAt (sI h 127 49 L.length) L := by
  refine ⟨gS1, fun k hk => ?_⟩
  rw [gS, if_neg (by omega), p.2 k (by rw [List.length_append]; omega), getD_l hk]
theorem pAt_in {L : List Int} {c d : Int} (p : pAt h (L ++ [c])) : pAt (sI h 157 L.length d) (L ++ [d]) := by
  refine ⟨by rw [gS, if_neg (by omega), p.1, List.length_append, List.length_append]; rfl, lAt_s (fun k hk => ?_)⟩
  rw [p.2 k (by rw [List.length_append]; omega), getD_l hk]
theorem s209 {R : List tst} {i : Int} {fa : Int → Int} {f : Nat} (hx : 0 ≤ x ∧ x < 8) (p : mPt h x w m s) (hm : m ≤ 300) (en : rEn w m 0 0 s) (p8 : rP8 s) (i0 : 0 ≤ i) (i1 : i < s 0 0 1) (nc : ncS s i) (r : mRw h x s R) (pa : pAt h (pth s i)) (sd : mSd h s fa) (hR : (R ++ tS s (f + 1) i fa).length ≤ 40) {K : Int → zH → Prop}
    (k1 : ¬ (s 1 i 0 = 4 ∧ ¬ 0 < s 1 i 7) → ∀ h1 R1 fa1, frP (fun b k => mtR x b k ∧ ¬ b = 127 ∧ ¬ b = 157) h h1 → mRw h1 x s R1 → mSd h1 s fa1 → R ++ tS s (f + 1) i fa = R1 ++ tS s f (i + s 1 i 9) fa1 → K (bT 0 s i) h1)
    (k2 : s 1 i 0 = 4 → ¬ 0 < s 1 i 7 → ∀ h1 R1, frP (mtR x) h h1 → mRw h1 x s R1 → mSd h1 s fa → pAt h1 (pth s i ++ [0]) → R ++ tS s (f + 1) i fa = R1 ++ tS s f (i + 1) fa → K (s 4 i 0 + 1) h1) : zC1 209 [vR 127 111, vI x, vI (s 4 i 0)] h K := by
  have t4 := en.t40
  have tk := en.tk3 i0 i1
  have l20 := pth_20 en i0 i1
  have ct := en.ct i0 i1
  have n5 := nc5 en nc i0 i1
  have c5 : s 1 i 0 = 4 → s 3 (s 4 i 0) 5 = if 0 < s 1 i 7 then 1 else 0 := by
    have c := en.1.2.2.1 i i0 i1
    unfold cIt at c
    rw [show kid 0 = 3 from rfl] at c
    exact fun q => (c.2.1 q).2
  have lf := (p8 i i0 i1).2.2.2
  have jump : s 1 i 0 = 2 ∨ 0 < s 1 i 7 → ∀ u, zK 209 31 [vR 127 111, vI x, vI (s 4 i 0), u] [] h (fun r h1 => ∃ v : Int, r = some (Sum.inl v) ∧ K v h1) := by
    intro c u
    have e : tS s (f + 1) i fa = (5, i, -1) :: tS s f (i + s 1 i 9) fa := by rw [tS, if_neg (by omega), if_pos c]
    rw [e] at hR k1
    have hR1 : R.length < 40 := by rw [List.length_append, List.length_cons] at hR; omega
    refine k209_31 _ _ u h _ (s207n hx r pa (by omega) hR1 (by omega) (fun h1 f1 r1 v => s206 (p.fr hm f1 (fun k _ => by unfold mtR; omega) (fun k => by unfold mtR; omega)) en i0 i1 (zq1 (k1 (by omega) h1 _ fa (f1.mo (fun b k q => ⟨q.1, q.2.1, q.2.2.1⟩)) r1 (sd.fr f1 (fun k => by omega)) (by rw [List.append_assoc]; rfl)))))
  have kd : s 3 (s 4 i 0) 0 = 2 ↔ s 1 i 0 = 2 := by omega
  have kd5 : s 3 (s 4 i 0) 0 = 5 ↔ s 1 i 0 = 4 := by omega
  have kd1 : s 3 (s 4 i 0) 0 = 1 ↔ s 1 i 0 = 1 := by omega
  have kd0 : s 3 (s 4 i 0) 0 = 0 ↔ s 1 i 0 = 0 := by omega
  have ops : s 1 i 0 = 0 ∨ s 1 i 0 = 1 ∨ s 1 i 0 = 2 ∨ s 1 i 0 = 3 ∨ s 1 i 0 = 4 := by omega
  clear ct
  refine cI (k209_0 x (s 4 i 0) h _ (s179 0 p ⟨tk.1, by omega⟩ t4 (by omega) ⟨fun c => jump (Or.inl (kd.1 c)) _, fun c => ⟨fun d => ?_, fun d => s179 5 p ⟨tk.1, by omega⟩ t4 (by omega) ⟨fun e => ?_, fun e => jump (Or.inr ?_) _⟩⟩⟩))
  · have o2 : ¬ s 1 i 0 = 2 := fun q => c (kd.2 q)
    have o4 : ¬ s 1 i 0 = 4 := fun q => d (kd5.2 q)
    have l7 := lf o2 o4
    have ll := en.lf i0 i1 o2 o4
    have nj : ¬ (s 1 i 0 = 2 ∨ 0 < s 1 i 7) := by omega
    rw [ll.1, ll.2] at k1
    refine k209_46 x (s 4 i 0) (s 3 (s 4 i 0) 0) h _ ⟨fun _ => ⟨fun d1 => ⟨fun d0 => ⟨by unfold inR; omega, zq1 ?_⟩, fun d0 => ?_⟩, fun d1 => ?_⟩, fun q => absurd d q⟩
    · have o0 := kd0.1 d0
      exact k1 (by omega) h R fa frP.rf r sd (by rw [tS, if_neg (by omega), if_neg nj, if_neg o4, if_neg (by omega), if_neg (by omega)])
    · have o3 : s 1 i 0 = 3 := by
        rcases ops with q | q | q | q | q
        · exact absurd (kd0.2 q) d0
        · exact absurd (kd1.2 q) d1
        · exact absurd q o2
        · exact q
        · exact absurd q o4
      have e : tS s (f + 1) i fa = (0, i, -1) :: tS s f (i + 1) fa := by rw [tS, if_neg (by omega), if_neg nj, if_neg o4, if_pos o3]
      rw [e] at hR k1
      have hR1 : R.length < 40 := by rw [List.length_append, List.length_cons] at hR; omega
      exact s207n hx r pa (by omega) hR1 (by omega) (fun h1 f1 r1 v => ⟨by unfold inR; omega, zq1 (k1 (by omega) h1 _ fa (f1.mo (fun b k q => ⟨q.1, q.2.1, q.2.2.1⟩)) r1 (sd.fr f1 (fun k => by omega)) (by rw [List.append_assoc]; rfl))⟩)
    · have o1 := kd1.1 (Classical.not_not.1 d1)
      have e : tS s (f + 1) i fa = ((if s 1 i 2 = -1 then [] else [(3, i, -1)]) ++ (if fa (s 1 i 1) = -1 then [] else [(4, i, fa (s 1 i 1))])) ++ tS s f (i + 1) (if fa (s 1 i 1) = -1 then ups fa (s 1 i 1) i else fa) := by
        rw [tS, if_neg (by omega), if_neg nj, if_neg o4, if_neg (by omega), if_pos o1, List.append_assoc]
        by_cases z : fa (s 1 i 1) = -1
        · rw [if_pos z, if_pos z, if_pos z]; rfl
        · rw [if_neg z, if_neg z, if_neg z]; rfl
      rw [e, ← List.append_assoc] at hR k1
      have hR1 : (R ++ ((if s 1 i 2 = -1 then [] else [(3, i, -1)]) ++ (if fa (s 1 i 1) = -1 then [] else [(4, i, fa (s 1 i 1))]))).length ≤ 40 := by rw [List.length_append] at hR; omega
      exact s208 hx p hm en i0 i1 o1 r pa sd hR1 (fun h1 f1 r1 sd1 => ⟨by unfold inR; omega, zq1 (k1 (by omega) h1 _ _ f1 r1 sd1 rfl)⟩)
  · have o4 := kd5.1 (Classical.not_not.1 d)
    have c5 := c5 o4
    have l7 : ¬ 0 < s 1 i 7 := fun z => e (by rw [c5, if_pos z])
    have e : tS s (f + 1) i fa = (1, i, -1) :: (2, i, -1) :: tS s f (i + 1) fa := by rw [tS, if_neg (by omega), if_neg (by omega), if_pos o4]
    rw [e] at hR k2
    have hR2 : R.length < 39 := by rw [List.length_append, List.length_cons, List.length_cons] at hR; omega
    refine k209_46 x (s 4 i 0) (s 3 (s 4 i 0) 0) h _ ⟨fun q => absurd (Classical.not_not.1 d) q, fun _ => s207n hx r pa (by omega) (by omega) (by omega) (fun h1 f1 r1 v1 => s207n hx r1 (pa.fr f1 (by omega) (fun k => by omega)) (by omega) (by rw [List.length_append]; show R.length + 1 < 40; omega) (by omega) (fun h2 f2 r2 v2 => ?_))⟩
    have f2 := f1.tr f2
    have pa2 := pa.fr f2 (by omega) (fun k => by omega)
    have sd2 := sd.fr f2 (fun k => by omega)
    rw [pa2.1]
    refine ⟨by omega, by omega, fun h3 e3 => ?_⟩
    have z3 : gI h3 127 49 = (pth s i).length := by rw [e3, gS, if_neg (by omega)]; exact pa2.1
    rw [z3]
    refine ⟨by unfold inR; omega, fun h4 e4 => ⟨by unfold inR; omega, zq1 ?_⟩⟩
    rw [e3] at e4
    have f4 : frP opA h2 h4 := by rw [e4]; exact (frP.rf.st (Or.inr rfl)).st (Or.inl ⟨rfl, rfl⟩)
    refine k2 o4 l7 h4 _ ((f2.mo (fun b k q => q.1)).tr (f4.mo (fun b k q => by unfold opA at q; unfold mtR; omega))) (r2.fr f4 (by unfold opA; omega) (fun b k _ _ => by unfold opA; omega)) (sd2.fr f4 (fun k => by unfold opA; omega)) (by rw [e4]; exact pAt_push pa2) (by rw [List.append_assoc, List.append_assoc]; rfl)
  · have o4 := kd5.1 (Classical.not_not.1 d)
    have c5 := c5 o4
    have e := Classical.not_not.1 e
    apply Classical.byContradiction; intro z
    rw [if_neg z] at c5
    omega
end MT2
