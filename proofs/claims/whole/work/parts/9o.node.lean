/-! node (of a node) and count: both programs. -/
noncomputable def aNod (T : pT) (i q : Int) : Int := if q = 0 then T i 0 else if q = 1 then T i 1 else if q = 2 then T i 2 else if q = 3 then T i 3 else if q = 4 then T i 4 else if q = 5 then T i 5 - T i 4 else if q = 6 then T i 6 else if q = 7 then T i 7 else -1
noncomputable def aCnt (n nd nc : Int) (T : pT) (rn : Int → Int) (a4 a5 q : Int) : Int := if q = 0 then nd else if q = 1 then n else if q = 2 then nc else if q = 3 then cnt (fun x => ¬ rn x = 0) 8 0 else if q = 4 then a4 else if q = 5 then a5 else if q = 6 then mxd T nd.toNat 0 0 + 1 else -1
section NO
variable {h : zH} {t : Int → Int} {n nd nc : Int} {T C : pT} {rn : Int → Int} {rt : Int → Int → Int} {rs : Int → pS} {a : Nat}
theorem s6 {i q : Int} (g : sF t n nd nc T C) (y : xU h a t n nd nc T C) (hi : 0 ≤ i ∧ i < nd) {K : Int → zH → Prop} (k : K (aNod T i q) h) : zC1 6 [vR 2 100, vI i, vI q] h K := by
  have hd := g.hd
  have pl := g.be hi.1 hi.2
  have hn := g.hn
  have e := y.2.2.2.2.2.1 i hi.1 hi.2
  have ty := y.2.1
  unfold aNod at k
  refine cI (k6_0 i q h _ (s30 y ⟨fun _ => ?_, fun c => absurd (b2i_ne0.2 hi) c⟩))
  rw [y.1, e.1, e.2.1, e.2.2.1, e.2.2.2.1, e.2.2.2.2.1, e.2.2.2.2.2.1, e.2.2.2.2.2.2.1, e.2.2.2.2.2.2.2.1]
  refine ⟨fun t0 => ⟨ty, hi.1, by omega, zq1 ?_⟩, fun t0 => ⟨fun t1 => ⟨ty, hi.1, by omega, zq1 ?_⟩, fun t1 => ⟨fun t2 => ⟨ty, hi.1, by omega, zq1 ?_⟩, fun t2 => ⟨fun t3 => ⟨ty, hi.1, by omega, zq1 ?_⟩, fun t3 => ⟨fun t4 => ⟨ty, hi.1, by omega, zq1 ?_⟩, fun t4 => ⟨fun t5 => ⟨ty, hi.1, by omega, ty, hi.1, by omega, by unfold inR; omega, zq1 ?_⟩, fun t5 => ⟨fun t6 => ⟨ty, hi.1, by omega, zq1 ?_⟩, fun t6 => ⟨fun t7 => ⟨ty, hi.1, by omega, zq1 ?_⟩, fun t7 => zq1 ?_⟩⟩⟩⟩⟩⟩⟩⟩
  · rwa [if_pos t0] at k
  · rwa [if_neg t0, if_pos (by omega)] at k
  · rwa [if_neg t0, if_neg (by omega), if_pos (by omega)] at k
  · rwa [if_neg t0, if_neg (by omega), if_neg (by omega), if_pos (by omega)] at k
  · rwa [if_neg t0, if_neg (by omega), if_neg (by omega), if_neg (by omega), if_pos (by omega)] at k
  · rwa [if_neg t0, if_neg (by omega), if_neg (by omega), if_neg (by omega), if_neg (by omega), if_pos (by omega)] at k
  · rwa [if_neg t0, if_neg (by omega), if_neg (by omega), if_neg (by omega), if_neg (by omega), if_neg (by omega), if_pos (by omega)] at k
  · rwa [if_neg t0, if_neg (by omega), if_neg (by omega), if_neg (by omega), if_neg (by omega), if_neg (by omega), if_neg (by omega), if_pos (by omega)] at k
  · rwa [if_neg t0, if_neg (by omega), if_neg (by omega), if_neg (by omega), if_neg (by omega), if_neg (by omega), if_neg (by omega), if_neg (by omega)] at k
theorem s197 {i q : Int} (g : sF t n nd nc T C) (x : mN h t n nd nc T C) {K : Int → zH → Prop} (k1 : (0 ≤ i ∧ i < nd) → K (aNod T i q) (sI h 127 0 0)) (k0 : ¬ (0 ≤ i ∧ i < nd) → K 0 (sI h 127 0 1)) : zC1 197 [vR 127 111, vI i, vI q] h K := by
  have hd := g.hd
  refine cI (k197_0 i q h _ (s157 g x.2.1 ⟨fun c => ?_, fun c => ?_⟩))
  · rw [b2i_eq0] at c
    refine k197_14 i q 1 h _ (fun h13 e13 => ?_)
    have z : gI h13 127 0 = 1 := by rw [e13, gS1]
    have k0 := k0 c
    rw [← e13] at k0
    exact ⟨fun d => absurd z d, fun _ => zq1 k0⟩
  · rw [b2i_ne0] at c
    have pl := g.be c.1 c.2
    have hn := g.hn
    refine k197_14 i q 0 h _ (fun h13 e13 => ?_)
    have z : gI h13 127 0 = 0 := by rw [e13, gS1]
    have k := k1 c
    rw [← e13] at k
    have f13 : frP (fun b k => b = 127 ∧ k = 0) h h13 := by rw [e13]; exact frP.rf.st ⟨rfl, rfl⟩
    have x1 : mN h13 t n nd nc T C := x.fr g.hn f13 (fun k _ _ => by omega) (by omega) (fun k => by omega)
    unfold aNod at k
    refine ⟨fun _ => ⟨fun t0 => s158 0 (by omega) g x1 c (zq1 ?_), fun t0 => ⟨fun t1 => s158 1 (by omega) g x1 c (zq1 ?_), fun t1 => ⟨fun t2 => s158 2 (by omega) g x1 c (zq1 ?_), fun t2 => ⟨fun t3 => s158 3 (by omega) g x1 c (zq1 ?_), fun t3 => ⟨fun t4 => s158 4 (by omega) g x1 c (zq1 ?_), fun t4 => ⟨fun t5 => s158 5 (by omega) g x1 c (s158 4 (by omega) g x1 c ⟨by unfold inR; omega, zq1 ?_⟩), fun t5 => ⟨fun t6 => s158 6 (by omega) g x1 c (zq1 ?_), fun t6 => ⟨fun t7 => s158 7 (by omega) g x1 c (zq1 ?_), fun t7 => zq1 ?_⟩⟩⟩⟩⟩⟩⟩⟩, fun d => absurd (by omega) d⟩
    · rwa [if_pos t0] at k
    · rwa [if_neg t0, if_pos (by omega)] at k
    · rwa [if_neg t0, if_neg (by omega), if_pos (by omega)] at k
    · rwa [if_neg t0, if_neg (by omega), if_neg (by omega), if_pos (by omega)] at k
    · rwa [if_neg t0, if_neg (by omega), if_neg (by omega), if_neg (by omega), if_pos (by omega)] at k
    · rwa [if_neg t0, if_neg (by omega), if_neg (by omega), if_neg (by omega), if_neg (by omega), if_pos (by omega)] at k
    · rwa [if_neg t0, if_neg (by omega), if_neg (by omega), if_neg (by omega), if_neg (by omega), if_neg (by omega), if_pos (by omega)] at k
    · rwa [if_neg t0, if_neg (by omega), if_neg (by omega), if_neg (by omega), if_neg (by omega), if_neg (by omega), if_neg (by omega), if_pos (by omega)] at k
    · rwa [if_neg t0, if_neg (by omega), if_neg (by omega), if_neg (by omega), if_neg (by omega), if_neg (by omega), if_neg (by omega), if_neg (by omega)] at k
theorem s29 {q a4 a5 : Int} (g : sF t n nd nc T C) (y : xU h a t n nd nc T C) (u : xRu h 53 rn rt rs) (e4 : gI h 3 1 = a4) (e5 : gI h 87 0 = a5) {K : Int → zH → Prop} (k : K (aCnt n nd nc T rn a4 a5 q) h) : zC1 29 [vR 2 100, vI q] h K := by
  have ty := y.2.1
  unfold aCnt at k
  refine cI (k29_0 q h _ ?_)
  rw [y.1, y.2.2.2.1, y.2.2.2.2.1, y.2.2.1.1, e4, e5]
  refine ⟨fun t0 => ⟨ty, zq1 ?_⟩, fun t0 => ⟨fun t1 => ⟨ty, zq1 ?_⟩, fun t1 => ⟨fun t2 => ⟨ty, zq1 ?_⟩, fun t2 => ⟨fun t3 => s35 u (zq1 ?_), fun t3 => ⟨fun t4 => zq1 ?_, fun t4 => ⟨fun t5 => zq1 ?_, fun t5 => ⟨fun t6 => ⟨ty, s65 g y.2.2 (zq1 ?_)⟩, fun t6 => zq1 ?_⟩⟩⟩⟩⟩⟩⟩
  · rwa [if_pos t0] at k
  · rwa [if_neg t0, if_pos (by omega)] at k
  · rwa [if_neg t0, if_neg (by omega), if_pos (by omega)] at k
  · rwa [if_neg t0, if_neg (by omega), if_neg (by omega), if_pos (by omega)] at k
  · rwa [if_neg t0, if_neg (by omega), if_neg (by omega), if_neg (by omega), if_pos (by omega)] at k
  · rwa [if_neg t0, if_neg (by omega), if_neg (by omega), if_neg (by omega), if_neg (by omega), if_pos (by omega)] at k
  · rwa [if_neg t0, if_neg (by omega), if_neg (by omega), if_neg (by omega), if_neg (by omega), if_neg (by omega), if_pos (by omega)] at k
  · rwa [if_neg t0, if_neg (by omega), if_neg (by omega), if_neg (by omega), if_neg (by omega), if_neg (by omega), if_neg (by omega)] at k
theorem s256 {q a4 a5 : Int} (g : sF t n nd nc T C) (x : mN h t n nd nc T C) (o : slO rn rt rs) (u : mRu h rn rt rs) (e4 : gI h 127 7 = a4) (e5 : gI h 127 5 = a5) {K : Int → zH → Prop} (k : K (aCnt n nd nc T rn a4 a5 q) (sI h 127 0 0)) : zC1 256 [vR 127 111, vI q] h K := by
  unfold aCnt at k
  refine cI (k256_0 q h _ (fun h4 f4 => ?_))
  rw [← f4] at k
  have f : frP (fun b k => b = 127 ∧ k = 0) h h4 := by rw [f4]; exact frP.rf.st ⟨rfl, rfl⟩
  have x1 : mN h4 t n nd nc T C := x.fr g.hn f (fun k _ _ => by omega) (by omega) (fun k => by omega)
  have u1 : mRu h4 rn rt rs := u.fr o f (fun k _ => by omega) (fun k => by omega)
  have e4' : gI h4 127 7 = a4 := by rw [f.1 _ _ (by omega)]; exact e4
  have e5' : gI h4 127 5 = a5 := by rw [f.1 _ _ (by omega)]; exact e5
  rw [x1.2.1, x1.2.2.1, x1.1.1, e4', e5']
  refine ⟨fun t0 => zq1 ?_, fun t0 => ⟨fun t1 => ⟨by omega, by omega, zq1 ?_⟩, fun t1 => ⟨fun t2 => zq1 ?_, fun t2 => ⟨fun t3 => s177 o u1 (zq1 ?_), fun t3 => ⟨fun t4 => zq1 ?_, fun t4 => ⟨fun t5 => zq1 ?_, fun t5 => ⟨fun t6 => s255 g x1 (zq1 ?_), fun t6 => zq1 ?_⟩⟩⟩⟩⟩⟩⟩
  · rwa [if_pos t0] at k
  · rwa [if_neg t0, if_pos (by omega)] at k
  · rwa [if_neg t0, if_neg (by omega), if_pos (by omega)] at k
  · rwa [if_neg t0, if_neg (by omega), if_neg (by omega), if_pos (by omega)] at k
  · rwa [if_neg t0, if_neg (by omega), if_neg (by omega), if_neg (by omega), if_pos (by omega)] at k
  · rwa [if_neg t0, if_neg (by omega), if_neg (by omega), if_neg (by omega), if_neg (by omega), if_pos (by omega)] at k
  · rwa [if_neg t0, if_neg (by omega), if_neg (by omega), if_neg (by omega), if_neg (by omega), if_neg (by omega), if_pos (by omega)] at k
  · rwa [if_neg t0, if_neg (by omega), if_neg (by omega), if_neg (by omega), if_neg (by omega), if_neg (by omega), if_neg (by omega)] at k
end NO
