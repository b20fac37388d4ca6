/-! The model: would, apply, rounds, after. -/
section MR
variable {h : zH} {rn : Int → Int} {rt : Int → Int → Int} {rs : Int → pS} {w : Int} {S : qS}
theorem s243s (g : sK S) (y : yS h S) (o : slO rn rt rs) (u : mRu h rn rt rs) {K : Int → zH → Prop}
    (k : ∀ h1, frP mST h h1 → gI h1 127 59 = (eW rn rt rs w S).length → (kW rn rt rs w S → mB h1 (nW rn rt rs w S).1 (nW rn rt rs w S).2 ∧ gI h1 127 11 = qN (nW rn rt rs w S) ∧ gI h1 127 13 = qC (nW rn rt rs w S)) → K (b2i (kW rn rt rs w S)) h1) : zC1 243 [vR 127 111, vI w] h K :=
  s243 g y o u (fun h1 f1 e1 p1 => k h1 f1 e1.1 p1)
def mwA (b : Nat) (k : Int) : Prop := mST b k ∨ (b = 127 ∧ k = 0)
theorem yS.wa {h1 : zH} (y : yS h S) (g : sK S) (f : frP mwA h h1) : yS h1 S := mN.fr y g.hn f (fun k _ _ => by unfold mwA mST meA edA mcA cwA hlA gWB gWA bgA mA; omega) (by unfold mwA mST meA edA mcA cwA hlA gWB gWA bgA mA; omega) (fun k => by unfold mwA mST meA edA mcA cwA hlA gWB gWA bgA mA; omega)
theorem mRu.wa {h1 : zH} (u : mRu h rn rt rs) (o : slO rn rt rs) (f : frP mwA h h1) : mRu h1 rn rt rs := u.fr o f (fun k _ => by unfold mwA mST meA edA mcA cwA hlA gWB gWA bgA mA; omega) (fun k => by unfold mwA mST meA edA mcA cwA hlA gWB gWA bgA mA; omega)
theorem s245 {q : Int} (g : sK S) (y : yS h S) (o : slO rn rt rs) (u : mRu h rn rt rs) {K : Int → zH → Prop} (k : ∀ h1, frP mwA h h1 → K (aWld rn rt rs S w q) h1) : zC1 245 [vR 127 111, vI w, vI q] h K := by
  unfold aWld at k
  refine cI (k245_0 w q h _ (fun h6 e6 => ?_))
  have f6 : frP mwA h h6 := by rw [e6]; exact frP.rf.st (Or.inr ⟨rfl, rfl⟩)
  refine s228 ⟨fun c => zq1 ?_, fun c => s141 ⟨fun d => ?_, fun d => zq1 ?_⟩⟩
  · rw [b2i_eq0] at c
    have := k h6 f6
    rwa [if_neg (fun z => c z.1)] at this
  · rw [b2i_ne0] at c d
    rw [if_pos ⟨c, d⟩] at k
    refine s243s g (y.wa g f6) o (u.wa o f6) (fun h9 f9 _ p9 => ⟨fun z => ?_, fun z => zq1 ?_⟩)
    · rw [b2i_ne0] at z
      have p := p9 z
      have kk := k h9 (f6.tr (f9.mo (fun b k q => Or.inl q)))
      rw [b2i_pos z, if_pos rfl] at kk
      refine ⟨fun e => ⟨fun e1 => zq1 ?_, fun e1 => zq1 ?_⟩, fun e => cI (k244_0 h9 _ ⟨_, rfl, zq1 ?_⟩)⟩
      · rw [if_neg e, if_neg e1] at kk
        rw [p.2.2]; exact kk
      · rw [if_neg e, if_pos (Classical.not_not.1 e1)] at kk
        rw [p.2.1]; exact kk
      · rw [if_pos (Classical.not_not.1 e)] at kk
        rw [p.1.1]; exact kk
    · have z := Classical.not_not.1 z
      rw [b2i_eq0] at z
      have kk := k h9 (f6.tr (f9.mo (fun b k q => Or.inl q)))
      rwa [b2i_neg z, if_neg (by omega)] at kk
  · have d : ¬ (0 ≤ q ∧ q ≤ 2) := fun z => d (by rw [b2i_ne0]; exact z)
    have := k h6 f6
    rwa [if_neg (fun z => d z.2)] at this
/-- what rounds may change -/
def mrA (b : Nat) (k : Int) : Prop := mwA b k ∨ mbA b k ∨ mpA b k ∨ b = 169
theorem mPa.fr {P : Nat → Int → Prop} {h1 : zH} {c : Int} {pt : Int → Int → Int} {pn : Int → Int} (p : mPa h c pt pn) (f : frP P h h1) (d : ∀ b k, mpA b k → ¬ P b k) : mPa h1 c pt pn := by
  obtain ⟨p1, p2, p3, p4⟩ := p
  exact ⟨by rw [f.1 _ _ (d _ _ (Or.inl ⟨rfl, rfl⟩))]; exact p1, p2, p3, fun i i0 i1 => ⟨(p4 i i0 i1).1, rw3_of (p4 i i0 i1).2 (p4 i i0 i1).1.1 (p4 i i0 i1).1.2 (fun j _ _ => f.1 _ _ (d _ _ (Or.inr rfl)))⟩⟩
theorem mRu.rr {h1 : zH} (u : mRu h rn rt rs) (o : slO rn rt rs) (f : frP mrA h h1) : mRu h1 rn rt rs := u.fr o f (fun k _ => by unfold mrA mwA mST meA edA mcA cwA hlA gWB gWA bgA mbA mRA mA mpA; omega) (fun k => by unfold mrA mwA mST meA edA mcA cwA hlA gWB gWA bgA mbA mRA mA mpA; omega)
theorem s160s (g : sK S) (o : slO rn rt rs) (kw : kW rn rt rs w S) (x : mB h (nW rn rt rs w S).1 (nW rn rt rs w S).2) {K : zH → Prop} (k : ∀ h1, frP mbA h h1 → yS h1 (nW rn rt rs w S) → K h1) : zC0 160 [vR 127 111] h K :=
  s160 (nW_K g o kw) x k
theorem s246 {c : Int} {pt : Int → Int → Int} {pn : Int → Int} (g : sK S) (y : yS h S) (l : ln h 128 = 2709) (p : mPa h c pt pn) (o : slO rn rt rs) (u : mRu h rn rt rs) {K : Int → zH → Prop}
    (k1 : (w = 0 ∨ w = 1) → cnW rn rt rs w S → ∀ h1, frP mrA h h1 → yS h1 (nW rn rt rs w S) → mPa h1 (paN c) (paT c pt S.1) (paT c pn S.2) → K (aApp rn rt rs S w) h1)
    (k2 : ¬ ((w = 0 ∨ w = 1) ∧ cnW rn rt rs w S) → ∀ h1, frP mwA h h1 → K (aApp rn rt rs S w) h1) : zC1 246 [vR 127 111, vI w] h K := by
  unfold aApp at k1 k2
  refine cI (k246_0 w h _ (fun h6 e6 => ?_))
  have f6 : frP mwA h h6 := by rw [e6]; exact frP.rf.st (Or.inr ⟨rfl, rfl⟩)
  refine s228 ⟨fun d => ?_, fun d => zq1 ?_⟩
  · rw [b2i_ne0] at d
    rw [if_pos d] at k1 k2
    refine s243s g (y.wa g f6) o (u.wa o f6) (fun h8 f8 e8 p8 => ?_)
    have F8 : frP mwA h h8 := f6.tr (f8.mo (fun b k q => Or.inl q))
    rw [e8]
    refine ⟨fun z => ⟨fun z1 => ?_, fun z1 => zq1 ?_⟩, fun z => zq1 ?_⟩
    · rw [b2i_ne0] at z1
      have ne : ¬ (eW rn rt rs w S).length = 0 := by omega
      have cw : cnW rn rt rs w S := ⟨fun e => ne (by rw [e]; rfl), z1⟩
      have k1 := k1 d cw
      rw [if_neg ne, b2i_pos z1, if_pos rfl] at k1
      have y8 := y.wa g F8
      have p8' := p.fr F8 (fun b k q => by unfold mpA at q; unfold mwA mST meA edA mcA cwA hlA gWB gWA bgA mA; omega)
      refine s159 p8' (mW_rw y8.1) g.hn (by omega) (by rw [F8.le, l]; omega) (fun h9 f9 p9 => ?_)
      refine s160s g o z1 ((p8 z1).1.fr f9 (by unfold mpA; constructor <;> omega)) (fun h10 f10 y10 => zq1 (k1 h10 ?_ y10 ?_))
      · exact ((F8.mo (fun b k q => Or.inl q)).tr (f9.mo (fun b k q => Or.inr (Or.inr (Or.inl q))))).tr (f10.mo (fun b k q => Or.inr (Or.inl q)))
      · exact p9.fr f10 (fun b k q => by unfold mpA at q; unfold mbA mRA mA; omega)
    · have z1 := Classical.not_not.1 z1
      rw [b2i_eq0] at z1
      have := k2 (fun q => z1 q.2.2) h8 F8
      rwa [if_neg (by omega), b2i_neg z1, if_neg (by omega)] at this
    · have z := Classical.not_not.1 z
      have e : eW rn rt rs w S = [] := List.length_eq_zero_iff.1 (by omega)
      have := k2 (fun q => q.2.1 e) h8 F8
      rwa [if_pos (by omega)] at this
  · have d : ¬ (w = 0 ∨ w = 1) := fun z => d (by rw [b2i_ne0]; exact z)
    have := k2 (fun z => d z.1) h6 f6
    rwa [if_neg d] at this
/-- a source is kept beside -/
theorem s248 {j : Int} {t : Int → Int} {n : Int} (x : mW h t n) (hn : 0 ≤ n ∧ n ≤ 300) (hj : 0 ≤ j ∧ j ≤ 6) {K : zH → Prop} (k : ∀ h1, frP (fun b k => b = 169 ∧ 301 * j ≤ k ∧ k < 301 * j + 301) h h1 → rw3 h1 169 (301 * j) t n → K h1) : zC0 248 [vR 127 111, vI j] h K := by
  have key : ∀ (d : Nat) (l : Int) (h1 : zH), 301 - l = d → 0 ≤ l → frP (fun b k => b = 169 ∧ 301 * j ≤ k ∧ k < 301 * j + 301) h h1 → (∀ i, 0 ≤ i → i < l → gI h1 169 (301 * j + i) = gI h 128 i) → zK 248 2 [vR 127 111, vI j, vI l] [] h1 (fun r h1 => r = none ∧ K h1) := by
    intro d
    induction d with
    | zero =>
      intro l h1 hl l0 f1 v1
      refine k248_2 j l h1 _ ⟨fun _ => zq0 (k h1 f1 ?_), fun c => absurd (by omega) c⟩
      refine rw3_of (mW_rw x) hn.1 hn.2 (fun i i0 i1 => ?_)
      rw [v1 i i0 (by omega), Int.zero_add]
    | succ d ih =>
      intro l h1 hl l0 f1 v1
      refine k248_2 j l h1 _ ⟨fun c => absurd c (by omega), fun _ => ⟨by unfold inR; omega, by unfold inR; omega, l0, by omega, by omega, by omega, fun h2 e2 => ⟨by unfold inR; omega, ih (l + 1) h2 (by omega) (by omega) (by rw [e2]; exact f1.st ⟨rfl, by omega, by omega⟩) (fun i i0 i1 => ?_)⟩⟩⟩
      have e128 : gI h1 128 l = gI h 128 l := f1.1 _ _ (by omega)
      rw [e2, gS]
      by_cases c : i = l
      · rw [if_pos ⟨rfl, by omega⟩, c, e128]
      · rw [if_neg (by omega)]; exact v1 i i0 (by omega)
  exact cV (k248_0 j h _ (key 301 0 h (by omega) (by omega) frP.rf (fun i i0 i1 => by omega)))
theorem rw3.fr {P : Nat → Int → Prop} {h1 : zH} {A : Nat} {off : Int} {t : Int → Int} {n : Int} (x : rw3 h A off t n) (hn : 0 ≤ n ∧ n ≤ 300) (f : frP P h h1) (d : ∀ k, off ≤ k → k < off + 301 → ¬ P A k) : rw3 h1 A off t n := rw3_of x hn.1 hn.2 (fun j j0 j1 => f.1 _ _ (d _ (by omega) (by omega)))
/-- rounds are done, each source kept beside -/
theorem s249 {q : Int} (g : sK S) (y : yS h S) (hq : 1 ≤ q ∧ q ≤ 6) (o : slO rn rt rs) (u : mRu h rn rt rs) {K : Int → zH → Prop}
    (k : ∀ h1, frP (fun b k => mwA b k ∨ mbA b k ∨ b = 169) h h1 → yS h1 (sqS rn rt rs w (mny rn rt rs w q.toNat S) S) → (∀ j : Nat, j ≤ mny rn rt rs w q.toNat S → rw3 h1 169 (301 * (j : Nat)) (sqS rn rt rs w j S).1 (sqS rn rt rs w j S).2) → K (mny rn rt rs w q.toNat S) h1) : zC1 249 [vR 127 111, vI w, vI q] h K := by
  have G := sqS_K (rn := rn) (rt := rt) (rs := rs) (w := w) g o q.toNat S g
  have key : ∀ (f j : Nat) (h1 : zH), (j : Int) + f = q → frP (fun b k => mwA b k ∨ mbA b k ∨ b = 169) h h1 → sK (sqS rn rt rs w j S) → yS h1 (sqS rn rt rs w j S) → (∀ i : Nat, i ≤ j → rw3 h1 169 (301 * (i : Nat)) (sqS rn rt rs w i S).1 (sqS rn rt rs w i S).2) → mny rn rt rs w q.toNat S = j + mny rn rt rs w f (sqS rn rt rs w j S) → zK 249 10 [vR 127 111, vI w, vI q, vI (j : Nat), vI 1] [] h1 (fun r h1 => ∃ v : Int, r = some (Sum.inl v) ∧ K v h1) := by
    intro f
    induction f with
    | zero =>
      intro j h1 hj f1 g1 y1 r1 e
      have e : mny rn rt rs w q.toNat S = j := e
      refine k249_10 w q _ 1 h1 _ ⟨fun _ => zq1 ?_, fun c => absurd (by omega) c⟩
      have := k h1 f1 (by rw [e]; exact y1) (fun i hi => r1 i (by omega))
      rw [e] at this; exact this
    | succ f ih =>
      intro j h1 hj f1 g1 y1 r1 e
      have u1 : mRu h1 rn rt rs := u.rr o (f1.mo (fun b k q => by unfold mrA; rcases q with q | q | q; exact Or.inl q; exact Or.inr (Or.inl q); exact Or.inr (Or.inr (Or.inr q))))
      have lej : ∀ i : Nat, i ≤ j → sK (sqS rn rt rs w i S) := fun i hi => G i (by omega)
      have keep : ∀ (h6 : zH) (P : Nat → Int → Prop), frP P h1 h6 → (∀ k, ¬ P 169 k) → ∀ i : Nat, i ≤ j → rw3 h6 169 (301 * (i : Nat)) (sqS rn rt rs w i S).1 (sqS rn rt rs w i S).2 := fun h6 P f6 d i hi => (r1 i hi).fr (lej i hi).hn f6 (fun k _ _ => d k)
      refine k249_10 w q _ 1 h1 _ ⟨fun c => absurd c (by omega), fun _ => ⟨fun c => absurd c (by omega), fun _ => s243s g1 y1 o u1 (fun h6 f6 e6 p6 => ?_)⟩⟩
      have F6 : frP (fun b k => mwA b k ∨ mbA b k ∨ b = 169) h h6 := f1.tr (f6.mo (fun b k q => Or.inl (Or.inl q)))
      have r6 := keep h6 _ f6 (fun k => by unfold mST meA edA mcA cwA hlA gWB gWA bgA mA; omega)
      have y6 : yS h6 (sqS rn rt rs w j S) := y1.wa g1 (f6.mo (fun b k q => Or.inl q))
      -- no more
      have stop : ¬ cnW rn rt rs w (sqS rn rt rs w j S) → zK 249 39 [vR 127 111, vI w, vI q, vI (j : Nat), vI 1] [] h6 (fun r h1 => ∃ v : Int, r = some (Sum.inl v) ∧ K v h1) := by
        intro nc
        rw [mny_n nc, Nat.add_zero] at e
        refine k249_39 w q _ _ h6 _ (k249_40 w q _ _ 0 h6 _ ⟨fun _ => k249_10 w q _ 0 h6 _ ⟨fun c => absurd c (by omega), fun _ => ⟨fun _ => zq1 ?_, fun c => absurd rfl c⟩⟩, fun c => absurd rfl c⟩)
        have := k h6 F6 (by rw [e]; exact y6) (fun i hi => r6 i (by omega))
        rw [e] at this; exact this
      rw [e6]
      refine ⟨fun c => stop (fun z => by rw [b2i_eq0] at c; exact c z.2), fun c => ⟨fun d => stop (fun z => z.1 (List.length_eq_zero_iff.1 (by omega))), fun d => k249_40 w q _ _ 1 h6 _ ⟨fun z => absurd z (by omega), fun _ => ?_⟩⟩⟩
      rw [b2i_ne0] at c
      have cw : cnW rn rt rs w (sqS rn rt rs w j S) := ⟨fun z => d (by rw [z]; simp), c⟩
      rw [mny_y cw] at e
      refine s160s g1 o c (p6 c).1 (fun h7 f7 y7 => ⟨by unfold inR; omega, s248 y7.1 (nW_K g1 o c).hn (by omega) (fun h8 f8 r8 => ?_)⟩)
      have F8 : frP (fun b k => mwA b k ∨ mbA b k ∨ b = 169) h h8 := (F6.tr (f7.mo (fun b k q => Or.inr (Or.inl q)))).tr (f8.mo (fun b k q => Or.inr (Or.inr q.1)))
      have y8 : yS h8 (nW rn rt rs w (sqS rn rt rs w j S)) := mN.fr y7 (nW_K g1 o c).hn f8 (fun k _ _ => by omega) (by omega) (fun k => by omega)
      have := ih (j + 1) h8 (by omega) F8 (by rw [sqS_s]; exact nW_K g1 o c) (by rw [sqS_s]; exact y8) (fun i hi => ?_) (by rw [sqS_s]; omega)
      · exact this
      · by_cases z : i = j + 1
        · rw [z, sqS_s, show ((j + 1 : Nat) : Int) = (j : Int) + 1 by omega]; exact r8
        · have a : rw3 h7 169 (301 * (i : Nat)) (sqS rn rt rs w i S).1 (sqS rn rt rs w i S).2 := (r6 i (by omega)).fr (lej i (by omega)).hn f7 (fun k _ _ => by unfold mbA mRA mA; omega)
          exact a.fr (lej i (by omega)).hn f8 (fun k k0 k1 => by omega)
  refine cI (k249_0 w q h _ (s248 (j := 0) y.1 g.hn (by omega) (fun h5 f5 r5 => ?_)))
  have y5 : yS h5 S := mN.fr y g.hn f5 (fun k _ _ => by omega) (by omega) (fun k => by omega)
  exact key q.toNat 0 h5 (by omega) (f5.mo (fun b k q => Or.inr (Or.inr q.1))) g y5 (fun i hi => by rw [show i = 0 by omega]; exact r5) (by show _ = 0 + mny rn rt rs w q.toNat S; omega)
theorem s250 {c q : Int} {pt : Int → Int → Int} {pn : Int → Int} (g : sK S) (y : yS h S) (l : ln h 169 = 2107) (p : mPa h c pt pn) (o : slO rn rt rs) (u : mRu h rn rt rs) {K : Int → zH → Prop}
    (k1 : (w = 0 ∨ w = 1) → 1 ≤ q → q ≤ 6 → 0 < mny rn rt rs w q.toNat S → ∀ h1, frP mrA h h1 → yS h1 (sqS rn rt rs w (mny rn rt rs w q.toNat S) S) → mPa h1 (paN c) (paT c pt S.1) (paT c pn S.2) → K (mny rn rt rs w q.toNat S) h1)
    (k2 : (w = 0 ∨ w = 1) → 1 ≤ q → q ≤ 6 → mny rn rt rs w q.toNat S = 0 → ∀ h1, frP (fun b k => mwA b k ∨ mbA b k ∨ b = 169) h h1 → yS h1 S → K 0 h1)
    (k3 : ¬ ((w = 0 ∨ w = 1) ∧ 1 ≤ q ∧ q ≤ 6) → K (-1) (sI h 127 0 0)) : zC1 250 [vR 127 111, vI w, vI q] h K := by
  refine cI (k250_0 w q h _ (fun h6 e6 => ?_))
  have f6 : frP mwA h h6 := by rw [e6]; exact frP.rf.st (Or.inr ⟨rfl, rfl⟩)
  rw [← e6] at k3
  refine s228 ⟨fun d => zq1 (k3 (fun z => ?_)), fun d => s141 ⟨fun d1 => ?_, fun d1 => zq1 (k3 (fun z => d1 (by rw [b2i_ne0]; exact z.2)))⟩⟩
  · rw [b2i_eq0] at d; exact d z.1
  · rw [b2i_ne0] at d d1
    have k1 := k1 d d1.1 d1.2
    have k2 := k2 d d1.1 d1.2
    refine s249 g (y.wa g f6) d1 o (u.wa o f6) (fun h9 f9 y9 r9 => ⟨fun z => zq1 ?_, fun z => ?_⟩)
    · have m0 : mny rn rt rs w q.toNat S = 0 := by omega
      rw [m0] at y9 ⊢
      exact k2 m0 h9 ((f6.mo (fun b k q => Or.inl q)).tr f9) y9
    · have p9 : mPa h9 c pt pn := (p.fr f6 (fun b k q => by unfold mpA at q; unfold mwA mST meA edA mcA cwA hlA gWB gWA bgA mA; omega)).fr f9 (fun b k q => by unfold mpA at q; unfold mwA mST meA edA mcA cwA hlA gWB gWA bgA mA mbA mRA mA; omega)
      have r0 := r9 0 (by omega)
      rw [show 301 * ((0 : Nat) : Int) = 0 by omega] at r0
      refine s159 p9 r0 g.hn (by omega) (by rw [f9.le, f6.le, l]; omega) (fun h10 f10 p10 => zq1 (k1 (by omega) h10 ?_ ?_ p10))
      · exact ((f6.mo (P' := mrA) (fun b k q => Or.inl q)).tr (f9.mo (P' := mrA) (fun b k q => by rcases q with q | q | q; exact Or.inl q; exact Or.inr (Or.inl q); exact Or.inr (Or.inr (Or.inr q))))).tr (f10.mo (fun b k q => Or.inr (Or.inr (Or.inl q))))
      · have G := sqS_K (rn := rn) (rt := rt) (rs := rs) (w := w) g o q.toNat S g _ (Nat.le_refl _)
        exact mN.fr y9 G.hn f10 (fun k _ _ => by unfold mpA; omega) (by unfold mpA; omega) (fun k => by unfold mpA; omega)
end MR
