/-! after: the same answers. -/
def smT (S R : qS) : Prop := S.2 = R.2 ∧ sameR S.1 R.1 0 0 S.2
section AF
variable (rn : Int → Int) (rt : Int → Int → Int) (rs : Int → pS) (w : Int)
def rpt (S : qS) (m : Nat) : Prop := ∃ k : Nat, 1 ≤ k ∧ k ≤ m ∧ ∃ i : Nat, i < k ∧ smT (sqS rn rt rs w i S) (sqS rn rt rs w k S)
noncomputable def aAft (S : qS) (q z : Int) : Int := if (w = 0 ∨ w = 1) ∧ (1 ≤ q ∧ q ≤ 6) ∧ 0 ≤ z ∧ z ≤ 2 then (if z = 0 then (sqS rn rt rs w (mny rn rt rs w q.toNat S) S).2 else if z = 1 then ((eW rn rt rs w (sqS rn rt rs w (mny rn rt rs w q.toNat S) S)).length : Int) else b2i (rpt rn rt rs w S (mny rn rt rs w q.toNat S))) else -1
end AF
def saj (j : Int) : Nat := (115 + 2 * j).toNat
/-- where sources are kept beside -/
def xSe (h : zH) : Prop := ∀ j, 0 ≤ j → j < 6 → gR h 106 j = saj j ∧ zty 101 (saj j) h ∧ ln h (saj j + 1) = 300
def afA (a2 b : Nat) (k : Int) : Prop := xAA b k ∨ (a2 ≤ b ∧ b < a2 + 16) ∨ (37 ≤ b ∧ b < 53) ∨ (115 ≤ b ∧ b ≤ 126)
section AG
variable {h : zH} {rn : Int → Int} {rt : Int → Int → Int} {rs : Int → pS} {w : Int} {a a2 : Nat} {S : qS}
theorem rpt_s {m : Nat} : rpt rn rt rs w S (m + 1) ↔ (rpt rn rt rs w S m ∨ ∃ i : Nat, i < m + 1 ∧ smT (sqS rn rt rs w i S) (sqS rn rt rs w (m + 1) S)) := by
  constructor
  · rintro ⟨k, k1, k2, q⟩
    by_cases c : k = m + 1
    · subst c; exact Or.inr q
    · exact Or.inl ⟨k, k1, by omega, q⟩
  · rintro (⟨k, k1, k2, q⟩ | q)
    · exact ⟨k, k1, by omega, q⟩
    · exact ⟨m + 1, by omega, Nat.le_refl _, q⟩
theorem xSe.fx {P R : Nat → Int → Prop} {h1 : zH} (x : xSe h) (f : frX P R h h1) (d : ∀ k, ¬ R 106 k) : xSe h1 := fun j j0 j1 => by
  rw [f.2.1 _ _ (d _), f.ty, f.le]; exact x j j0 j1
theorem s41 {b : Nat} {j : Nat} {X : qS} {Y : Nat → qS} (x : xSe h) (hj : j < 6) (tx : Txt h b X.1 X.2) (o : tOk X.1 X.2) (ty : ∀ i : Nat, i ≤ j → Txt h (saj i) (Y i).1 (Y i).2 ∧ tOk (Y i).1 (Y i).2) {K : Int → zH → Prop} (k : K (b2i (∃ i : Nat, i < j + 1 ∧ smT (Y i) X)) h) : zC1 41 [vR 2 100, vR b 101, vI (j : Nat)] h K := by
  have key : ∀ (f i : Nat), i + f = j + 1 → (∀ p : Nat, p < i → ¬ smT (Y p) X) → zK 41 2 [vR 2 100, vR b 101, vI (j : Nat), vI (i : Nat)] [] h (fun r h1 => ∃ v : Int, r = some (Sum.inl v) ∧ K v h1) := by
    intro f
    induction f with
    | zero =>
      intro i hi hn
      refine k41_2 b _ _ h _ ⟨fun _ => ⟨Or.inl rfl, zq1 ?_⟩, fun c => absurd (by omega) c⟩
      rwa [b2i_neg (fun z => by obtain ⟨p, p1, p2⟩ := z; exact hn p (by omega) p2)] at k
    | succ f ih =>
      intro i hi hn
      have xi := x (i : Nat) (by omega) (by omega)
      have ti := ty i (by omega)
      refine k41_2 b _ _ h _ ⟨fun c => absurd c (by omega), fun _ => ⟨by omega, by omega, ?_⟩⟩
      rw [xi.1]
      refine ⟨xi.2.1, s46 ti.1 tx ti.2 o ⟨fun c => ⟨by unfold inR; omega, ?_⟩, fun c => ⟨Or.inr rfl, zq1 ?_⟩⟩⟩
      · rw [b2i_eq0] at c
        refine ih (i + 1) (by omega) (fun p hp z => ?_)
        by_cases d : p = i
        · subst d; exact c z
        · exact hn p (by omega) z
      · rw [b2i_ne0] at c
        rwa [b2i_pos ⟨i, by omega, c⟩] at k
  exact cI (k41_0 b _ h _ (key (j + 1) 0 (by omega) (fun p hp => by omega)))
theorem s25 {q z : Int} (W : xW h a a2) (g : sK S) (y : xQs h a S) (l84 : ln h 84 = 300) (tp : zty 102 37 h) (lp : ln h 39 = 300) (xs : xSe h) (o : slO rn rt rs) (u : xRu h 53 rn rt rs) {K : Int → zH → Prop}
    (k : ∀ h1, frX (afA a2) fiR h h1 → K (aAft rn rt rs w S q z) h1) : zC1 25 [vR 2 100, vI w, vI q, vI z] h K := by
  obtain ⟨w1, w2, w3, w4, w5, w6, w7⟩ := W
  unfold aAft at k
  have no : ¬ ((w = 0 ∨ w = 1) ∧ (1 ≤ q ∧ q ≤ 6) ∧ 0 ≤ z ∧ z ≤ 2) → K (-1) h := fun c => by
    have := k h frX.rf
    rwa [if_neg c] at this
  refine cI (k25_0 w q z h _ (s32 ⟨fun c => zq1 (no (fun d => ?_)), fun c => ⟨fun c1 => zq1 (no (by omega)), fun c1 => ⟨fun c2 => zq1 (no (by omega)), fun c2 => ⟨fun c3 => zq1 (no (by omega)), fun c3 => ⟨fun c4 => ?_, fun c4 => zq1 (no (by omega))⟩⟩⟩⟩⟩))
  · rw [b2i_eq0] at c; exact c d.1
  · rw [b2i_ne0] at c
    rw [if_pos ⟨c, ⟨by omega, by omega⟩, by omega, by omega⟩] at k
    have G := sqS_K (rn := rn) (rt := rt) (rs := rs) (w := w) g o q.toNat S g
    -- the end
    have fin : ∀ (b : Nat) (h1 : zH) (u2 u6 u7 : zV), frX (afA a2) fiR h h1 → b = a ∨ b = a2 ∨ b = 37 → xQs h1 b (sqS rn rt rs w (mny rn rt rs w q.toNat S) S) → zK 25 135 [vR 2 100, vI w, u2, vI z, vR b 102, vI (b2i (rpt rn rt rs w S (mny rn rt rs w q.toNat S))), u6, u7] [] h1 (fun r h1 => ∃ v : Int, r = some (Sum.inl v) ∧ K v h1) := by
      intro b h1 u2 u6 u7 f1 hb y1
      have tb : zty 102 b h1 := by rw [f1.ty]; rcases hb with e | e | e <;> rw [e] <;> assumption
      have gm := G _ (Nat.le_refl _)
      refine k25_135 w u2 z b _ u6 u7 h1 _ ⟨fun d => ⟨fun d1 => s118 gm y1 tb (by omega) o (u.fx f1 (fun b k _ _ => by unfold afA xAA; omega) (fun k _ _ => by unfold fiR; omega)) (fun h10 f10 xw => zq1 ?_), fun d1 => ⟨fun d2 => zq1 ?_, fun d2 => zq1 ?_⟩⟩, fun d => zq1 ?_⟩
      · have := k h10 (f1.tr (f10.mo (fun b k q => Or.inl (by unfold wkA at q; unfold xAA; omega)) (fun b k q => q)))
        rw [if_neg d, if_pos (by omega)] at this
        rw [xw.1]; exact this
      · have := k h1 f1
        rw [if_neg d, if_neg (by omega), d2] at this; exact this
      · have := k h1 f1
        rw [if_neg d, if_neg (by omega)] at this
        rw [b2i_ne0] at d2
        rwa [b2i_pos d2] at this
      · have := k h1 f1
        rw [if_pos (Classical.not_not.1 d)] at this
        rw [y1.1.1]; exact this
    have key : ∀ (f j : Nat) (b : Nat) (h1 : zH) (u7 : zV), (j : Int) + f = q → frX (afA a2) fiR h h1 → ((b = a ∧ j = 0) ∨ b = a2 ∨ b = 37) → xQs h1 b (sqS rn rt rs w j S) → (∀ i : Nat, i < j → Txt h1 (saj i) (sqS rn rt rs w i S).1 (sqS rn rt rs w i S).2) → mny rn rt rs w q.toNat S = j + mny rn rt rs w f (sqS rn rt rs w j S) → zK 25 41 [vR 2 100, vI w, vI q, vI z, vR b 102, vI (b2i (rpt rn rt rs w S j)), vI (j : Nat), u7] [] h1 (fun r h1 => ∃ v : Int, r = some (Sum.inl v) ∧ K v h1) := by
      intro f
      induction f with
      | zero =>
        intro j b h1 u7 hj f1 hb y1 t1 e
        have e : mny rn rt rs w q.toNat S = j := e
        refine k25_41 w q z b _ _ u7 h1 _ ⟨fun _ => ?_, fun d => absurd (by omega) d⟩
        have := fin b h1 (vI q) (vI (j : Nat)) u7 f1 (by omega) (by rw [e]; exact y1)
        rw [e] at this; exact this
      | succ f ih =>
        intro j b h1 u7 hj f1 hb y1 t1 e
        have gj := G j (by omega)
        have tb : zty 102 b h1 := by rw [f1.ty]; rcases hb with e | e | e; rw [e.1]; exact w3; rw [e]; exact w4; rw [e]; exact tp
        have u1 : xRu h1 53 rn rt rs := u.fx f1 (fun b k _ _ => by unfold afA xAA; omega) (fun k _ _ => by unfold fiR; omega)
        have e2 : gR h1 2 2 = a2 := by rw [f1.2.1 _ _ (by unfold fiR; omega)]; exact w2
        have xs1 := xs.fx f1 (fun k => by unfold fiR; omega)
        -- into another source
        have into : ∀ (b2 : Nat), (b2 = a2 ∨ b2 = 37) → ¬ b2 = b → zty 102 b2 h1 → ln h1 (b2 + 2) = 300 → zK 25 67 [vR 2 100, vI w, vI q, vI z, vR b 102, vI (b2i (rpt rn rt rs w S j)), vI (j : Nat), u7] [vR b2 102] h1 (fun r h1 => ∃ v : Int, r = some (Sum.inl v) ∧ K v h1) := by
          intro b2 hb2 nb tb2 lb2
          have dj : b + 16 ≤ b2 ∨ b2 + 16 ≤ b := by omega
          have sub : ∀ b' k, stA b2 b' k → afA a2 b' k := fun b' k q => by
            rcases q with q | q
            · exact Or.inl q
            · right; omega
          have stop : ¬ cnW rn rt rs w (sqS rn rt rs w j S) → ∀ h4, frX (stA b2) fiR h1 h4 → zK 25 135 [vR 2 100, vI w, vI q, vI z, vR b 102, vI (b2i (rpt rn rt rs w S j)), vI (j : Nat), vR b2 102] [] h4 (fun r h1 => ∃ v : Int, r = some (Sum.inl v) ∧ K v h1) := by
            intro nc h4 f4
            rw [mny_n nc, Nat.add_zero] at e
            have := fin b h4 (vI q) (vI (j : Nat)) (vR b2 102) (f1.tr (f4.mo sub (fun b k q => q))) (by omega) (by rw [e]; exact y1.fx f4 (fun b k _ _ => by unfold stA xAA; omega))
            rw [e] at this; exact this
          refine k25_67 w q z b _ _ u7 b2 h1 _ (s40s gj y1 tb (by omega) (by omega) lb2 (by rw [f1.le]; exact l84) o u1 (fun e0 h4 f4 => ⟨fun d => absurd d (by omega), fun _ => stop (fun d => d.1 e0) h4 (f4.mo (fun b k q => Or.inl q) (fun b k q => q))⟩) (fun cw h4 f4 x4 => ⟨fun _ => ?_, fun d => absurd (by have : ¬ (eW rn rt rs w (sqS rn rt rs w j S)).length = 0 := fun z => cw.1 (List.length_eq_zero_iff.1 z); omega) d⟩) (fun ne nk h4 f4 => ⟨fun d => absurd d (by omega), fun _ => stop (fun d => nk d.2) h4 f4⟩))
          have F4 := f1.tr (f4.mo sub (fun b k q => q))
          have xs4 := xs.fx F4 (fun k => by unfold fiR; omega)
          have sj := xs4 (j : Nat) (by omega) (by omega)
          have y4 : xQs h4 b (sqS rn rt rs w j S) := y1.fx f4 (fun b k _ _ => by unfold stA xAA; omega)
          have sjn : saj (j : Nat) = 115 + 2 * j := by unfold saj; omega
          rw [mny_y cw] at e
          have gn : sK (sqS rn rt rs w (j + 1) S) := by rw [sqS_s]; exact nW_K gj o cw.2
          rw [sj.1]
          refine ⟨by omega, by omega, sj.2.1, s45 y4.1 gj.1 sj.2.2 (by omega) (fun h8 f8 t8 => ?_)⟩
          have F8 : frX (afA a2) fiR h h8 := F4.tr ((f8.x).mo (fun b k q => by unfold txA at q; unfold afA; omega) (fun b k q => q))
          have x8 : xQs h8 b2 (sqS rn rt rs w (j + 1) S) := by
            rw [sqS_s]; exact x4.fr f8 (fun b k _ _ => by unfold txA; omega)
          have s8 : ∀ i : Nat, i < j + 1 → Txt h8 (saj i) (sqS rn rt rs w i S).1 (sqS rn rt rs w i S).2 := by
            intro i hi
            by_cases d : i = j
            · subst d; exact t8
            · have si : saj (i : Nat) = 115 + 2 * i := by unfold saj; omega
              have a4 : Txt h4 (saj i) (sqS rn rt rs w i S).1 (sqS rn rt rs w i S).2 := (t1 i (by omega)).fx f4 (fun k => by unfold stA xAA; omega)
              exact a4.fr f8 (fun k => by unfold txA; omega)
          have nxt : ∀ (c : Prop), (c ↔ rpt rn rt rs w S (j + 1)) → zK 25 41 [vR 2 100, vI w, vI q, vI z, vR b2 102, vI (b2i c), vI ((j : Int) + 1), vR b2 102] [] h8 (fun r h1 => ∃ v : Int, r = some (Sum.inl v) ∧ K v h1) := by
            intro c hc
            rw [b2i_congr hc]
            exact ih (j + 1) b2 h8 _ (by omega) F8 (by omega) x8 s8 (by rw [sqS_s]; omega)
          refine ⟨fun d => ⟨by unfold inR; omega, ?_⟩, fun d => s41 (X := sqS rn rt rs w (j + 1) S) (Y := fun i => sqS rn rt rs w i S) (xs.fx F8 (fun k => by unfold fiR; omega)) (by omega) x8.1 gn.1 (fun i hi => ⟨s8 i (by omega), (G i (by omega)).1⟩) ⟨fun d1 => ⟨by unfold inR; omega, ?_⟩, fun d1 => ⟨by unfold inR; omega, ?_⟩⟩⟩
          · rw [b2i_ne0] at d
            have := nxt True ⟨fun _ => rpt_s.2 (Or.inl d), fun _ => trivial⟩
            rwa [b2i_pos trivial] at this
          · have d := Classical.not_not.1 d
            rw [b2i_eq0] at d d1
            have := nxt False ⟨fun q => q.elim, fun q => by rcases rpt_s.1 q with q | q; exact d q; exact d1 q⟩
            rwa [b2i_neg (fun q => q)] at this
          · rw [b2i_ne0] at d1
            have := nxt True ⟨fun _ => rpt_s.2 (Or.inr d1), fun _ => trivial⟩
            rwa [b2i_pos trivial] at this
        refine k25_41 w q z b _ _ u7 h1 _ ⟨fun d => absurd d (by omega), fun _ => ?_⟩
        rw [e2]
        refine ⟨by rw [f1.ty]; exact w4, fun d => ⟨by rw [f1.ty]; exact w4, into a2 (Or.inl rfl) (fun e => d e.symm) (by rw [f1.ty]; exact w4) (by rw [f1.le]; exact w6)⟩, fun d => into 37 (Or.inr rfl) (by omega) (by rw [f1.ty]; exact tp) (by rw [f1.le]; exact lp)⟩
    rw [w1]
    refine ⟨w3, ?_⟩
    have r0 : ¬ rpt rn rt rs w S 0 := by rintro ⟨p, p1, p2, _⟩; omega
    have := key q.toNat 0 a h vU (by omega) frX.rf (Or.inl ⟨rfl, rfl⟩) y (fun i hi => by omega) (by show _ = 0 + mny rn rt rs w q.toNat S; omega)
    rw [b2i_neg r0] at this
    exact this
theorem s247 {m j : Nat} (hj : j ≤ 6) {Y : Nat → qS} (r : ∀ i : Nat, i ≤ j → rw3 h 169 (301 * (i : Nat)) (Y i).1 (Y i).2) (hn : ∀ i : Nat, i ≤ j → 0 ≤ (Y i).2 ∧ (Y i).2 ≤ 300) {K : Int → zH → Prop} (k : K (b2i (∃ i : Nat, i < j ∧ smT (Y i) (Y j))) h) : zC1 247 [vR 127 111, vI (j : Nat)] h K := by
  have same : ∀ i : Nat, i < j → (smT (Y i) (Y j) ↔ ∀ p, 0 ≤ p → p < 301 → gI h 169 (301 * (i : Nat) + p) = gI h 169 (301 * (j : Nat) + p)) := by
    intro i hi
    have ri := r i (by omega)
    have rj := r j (by omega)
    have ni := hn i (by omega)
    have nj := hn j (by omega)
    constructor
    · rintro ⟨e, s⟩ p p0 p1
      by_cases c : p = 300
      · rw [c, ri.1, rj.1]; exact e
      · by_cases d : p < (Y i).2
        · rw [ri.2.1 p p0 d, rj.2.1 p p0 (by omega)]
          have := s p p0 d
          rwa [Int.zero_add] at this
        · rw [ri.2.2 p (by omega) (by omega), rj.2.2 p (by omega) (by omega)]
    · intro s
      have e : (Y i).2 = (Y j).2 := by
        have := s 300 (by omega) (by omega)
        rwa [ri.1, rj.1] at this
      refine ⟨e, fun p p0 p1 => ?_⟩
      have := s p p0 (by omega)
      rw [ri.2.1 p p0 p1, rj.2.1 p p0 (by omega)] at this
      rwa [Int.zero_add]
  have out : ∀ (f i : Nat) (c : Prop) (u4 : zV), i + f = j → ((c ∨ ∃ p : Nat, i ≤ p ∧ p < j ∧ smT (Y p) (Y j)) ↔ ∃ p : Nat, p < j ∧ smT (Y p) (Y j)) → zK 247 4 [vR 127 111, vI (j : Nat), vI (b2i c), vI (i : Nat), u4] [] h (fun r h1 => ∃ v : Int, r = some (Sum.inl v) ∧ K v h1) := by
    intro f
    induction f with
    | zero =>
      intro i c u4 hi hc
      refine k247_4 _ _ _ u4 h _ ⟨fun _ => ⟨b2i_01, zq1 ?_⟩, fun d => absurd (by omega) d⟩
      rw [← b2i_congr hc] at k
      rwa [b2i_congr (show (c ∨ ∃ p : Nat, i ≤ p ∧ p < j ∧ smT (Y p) (Y j)) ↔ c from ⟨fun q => by rcases q with q | ⟨p, p0, p1, _⟩; exact q; omega, Or.inl⟩)] at k
    | succ f ih =>
      intro i c u4 hi hc
      have sm := same i (by omega)
      have st : ∀ (c' : Prop) (u4 : zV), (c' ↔ (c ∨ smT (Y i) (Y j))) → zK 247 4 [vR 127 111, vI (j : Nat), vI (b2i c'), vI ((i : Int) + 1), u4] [] h (fun r h1 => ∃ v : Int, r = some (Sum.inl v) ∧ K v h1) := by
        intro c' u4 hc'
        refine ih (i + 1) c' u4 (by omega) ?_
        rw [hc', ← hc]
        constructor
        · rintro ((q | q) | ⟨p, p0, p1, q⟩)
          · exact Or.inl q
          · exact Or.inr ⟨i, by omega, by omega, q⟩
          · exact Or.inr ⟨p, by omega, p1, q⟩
        · rintro (q | ⟨p, p0, p1, q⟩)
          · exact Or.inl (Or.inl q)
          · by_cases d : p = i
            · subst d; exact Or.inl (Or.inr q)
            · exact Or.inr ⟨p, by omega, p1, q⟩
      -- both rows side by side
      have row : ∀ (d : Nat) (l : Int), 301 - l = d → 0 ≤ l → (∀ p, 0 ≤ p → p < l → gI h 169 (301 * (i : Nat) + p) = gI h 169 (301 * (j : Nat) + p)) → zK 247 12 [vR 127 111, vI (j : Nat), vI (b2i c), vI (i : Nat), vI l] [] h (fun r h1 => ∃ v : Int, r = some (Sum.inl v) ∧ K v h1) := by
        intro d
        induction d with
        | zero =>
          intro l hl l0 v
          have eq : smT (Y i) (Y j) := sm.2 (fun p p0 p1 => v p p0 (by omega))
          refine k247_12 _ _ _ l h _ ⟨fun _ => k247_55 _ _ _ l h _ ⟨fun z => ⟨by unfold inR; omega, ?_⟩, fun z => ⟨fun z1 => absurd (by omega) z1, fun _ => ⟨by unfold inR; omega, ?_⟩⟩⟩, fun z => absurd (by omega) z⟩
          · have := st True (vI l) ⟨fun _ => Or.inr eq, fun _ => trivial⟩
            rwa [b2i_pos trivial] at this
          · have := st True (vI l) ⟨fun _ => Or.inr eq, fun _ => trivial⟩
            rwa [b2i_pos trivial] at this
        | succ d ihd =>
          intro l hl l0 v
          refine k247_12 _ _ _ l h _ ⟨fun z => absurd z (by omega), fun _ => ⟨by unfold inR; omega, by unfold inR; omega, by omega, by omega, by unfold inR; omega, by unfold inR; omega, by omega, by omega, fun z => k247_55 _ _ _ l h _ ⟨fun z1 => ⟨by unfold inR; omega, ?_⟩, fun z1 => ⟨fun z2 => ⟨by unfold inR; omega, ?_⟩, fun z2 => absurd (Classical.not_not.1 z2) (by omega)⟩⟩, fun z => ⟨by unfold inR; omega, ihd (l + 1) (by omega) (by omega) (fun p p0 p1 => ?_)⟩⟩⟩
          · rw [b2i_ne0] at z1
            have := st True (vI l) ⟨fun _ => Or.inl z1, fun _ => trivial⟩
            rwa [b2i_pos trivial] at this
          · have z1 := Classical.not_not.1 z1
            rw [b2i_eq0] at z1
            have := st False (vI l) ⟨fun q => q.elim, fun q => by rcases q with q | q; exact z1 q; exact z (sm.1 q l l0 (by omega))⟩
            rwa [b2i_neg (fun q => q)] at this
          · by_cases e : p = l
            · rw [e]; exact Classical.not_not.1 z
            · exact v p p0 (by omega)
      exact k247_4 _ _ _ u4 h _ ⟨fun z => absurd z (by omega), fun _ => row 301 0 (by omega) (by omega) (fun p p0 p1 => by omega)⟩
  have := out j 0 False vU (by omega) ⟨fun q => ?_, fun q => ?_⟩
  · rw [b2i_neg (fun q => q)] at this
    exact cI (k247_0 _ h _ this)
  · rcases q with q | ⟨p, p0, p1, q⟩
    · exact q.elim
    · exact ⟨p, p1, q⟩
  · obtain ⟨p, p1, q⟩ := q
    exact Or.inr ⟨p, by omega, p1, q⟩
theorem s251 {q z : Int} (g : sK S) (y : yS h S) (o : slO rn rt rs) (u : mRu h rn rt rs) {K : Int → zH → Prop}
    (k : ∀ h1, frP (fun b k => mwA b k ∨ mbA b k ∨ b = 169) h h1 → yS h1 S → K (aAft rn rt rs w S q z) h1) : zC1 251 [vR 127 111, vI w, vI q, vI z] h K := by
  have hn := g.hn
  unfold aAft at k
  refine cI (k251_0 w q z h _ (fun h10 e10 => ?_))
  have f10 : frP mwA h h10 := by rw [e10]; exact frP.rf.st (Or.inr ⟨rfl, rfl⟩)
  have F10 : frP (fun b k => mwA b k ∨ mbA b k ∨ b = 169) h h10 := f10.mo (fun b k q => Or.inl q)
  have no : ¬ ((w = 0 ∨ w = 1) ∧ (1 ≤ q ∧ q ≤ 6) ∧ 0 ≤ z ∧ z ≤ 2) → K (-1) h10 := fun c => by
    have := k h10 F10 (y.wa g f10)
    rwa [if_neg c] at this
  refine s228 ⟨fun c => zq1 (no (fun d => ?_)), fun c => s141 ⟨fun c1 => zq1 (no (fun d => ?_)), fun c1 => s141 ⟨fun c2 => ?_, fun c2 => zq1 (no (fun d => c2 (by rw [b2i_ne0]; exact d.2.2)))⟩⟩⟩
  · rw [b2i_eq0] at c; exact c d.1
  · rw [b2i_eq0] at c1; exact c1 d.2.1
  · rw [b2i_ne0] at c c1 c2
    rw [if_pos ⟨c, c1, c2⟩] at k
    refine s249 g (y.wa g f10) c1 o (u.wa o f10) (fun h14 f14 y14 r14 => ?_)
    have G := sqS_K (rn := rn) (rt := rt) (rs := rs) (w := w) g o q.toNat S g
    have ml := mny_l (rn := rn) (rt := rt) (rs := rs) (w := w) q.toNat S
    have gm := G _ (Nat.le_refl _)
    have F14 := F10.tr f14
    have r0 := r14 0 (by omega)
    rw [show 301 * ((0 : Nat) : Int) = 0 by omega] at r0
    generalize mny rn rt rs w q.toNat S = m at *
    -- back to the first source
    have back : ∀ (its : Int) (h1 : zH) (u1 u2 u3 u4 : zV), frP (fun b k => mwA b k ∨ mbA b k ∨ b = 169) h h1 → rw3 h1 169 0 S.1 S.2 → (∀ h2, frP (fun b k => mwA b k ∨ mbA b k ∨ b = 169) h h2 → yS h2 S → K its h2) → zK 251 116 [vR 127 111, u1, u2, u3, u4, vI its, vI 0] [] h1 (fun r h1 => ∃ v : Int, r = some (Sum.inl v) ∧ K v h1) := by
      intro its h1 u1 u2 u3 u4 f1 r1 kk
      refine cploop h1 128 0 301 (fun i => gI h1 169 i) (fun l hh => zK 251 116 [vR 127 111, u1, u2, u3, u4, vI its, vI l] [] hh _) (fun l h2 l0 l1 f2 k2 => ?_) (fun h2 f2 v2 => ?_) (by omega)
      · have e : gI h2 169 l = gI h1 169 l := f2.1 _ _ (by omega)
        refine k251_116 u1 u2 u3 u4 its l h2 _ ⟨fun c => absurd c (by omega), fun _ => ⟨l0, by omega, l0, by omega, fun h18 e18 => ⟨by unfold inR; omega, ?_⟩⟩⟩
        rw [e] at e18
        rw [e18]; exact k2
      · have F2 : frP (fun b k => mwA b k ∨ mbA b k ∨ b = 169) h h2 := f1.tr (f2.mo (fun b k q => Or.inr (Or.inl (Or.inr ⟨q.1, by omega⟩))))
        have mw : mW h2 S.1 S.2 := by
          refine ⟨?_, fun i i0 i1 => ?_, fun i i0 i1 => ?_⟩
          · rw [v2 300 (by omega) (by omega)]; have := r1.1; rwa [Int.zero_add] at this
          · rw [v2 i i0 (by omega)]; have := r1.2.1 i i0 i1; rwa [Int.zero_add] at this
          · rw [v2 i (by omega) (by omega)]; have := r1.2.2 i i0 i1; rwa [Int.zero_add] at this
        refine k251_116 u1 u2 u3 u4 its 301 h2 _ ⟨fun _ => s156 g mw (fun h3 f3 y3 => zq1 (kk h3 (F2.tr (f3.mo (fun b k q => Or.inr (Or.inl (Or.inl q))))) y3)), fun c => absurd (by omega) c⟩
    -- which came again
    have rep : ∀ (f p : Nat) (c : Prop) (h1 : zH) (u1 u2 u3 : zV), p + f = m + 1 → 1 ≤ p → (c ↔ rpt rn rt rs w S (p - 1)) → frP (fun b k => mwA b k ∨ mbA b k ∨ b = 169) h h1 → (∀ j : Nat, j ≤ m → rw3 h1 169 (301 * (j : Nat)) (sqS rn rt rs w j S).1 (sqS rn rt rs w j S).2) → (∀ h2, frP (fun b k => mwA b k ∨ mbA b k ∨ b = 169) h h2 → yS h2 S → K (b2i (rpt rn rt rs w S m)) h2) → zK 251 83 [vR 127 111, u1, u2, u3, vI (m : Nat), vI (b2i c), vI (p : Nat)] [] h1 (fun r h1 => ∃ v : Int, r = some (Sum.inl v) ∧ K v h1) := by
      intro f
      induction f with
      | zero =>
        intro p c h1 u1 u2 u3 hp p1 hc f1 r1 kk
        have r0 := r1 0 (by omega)
        rw [show 301 * ((0 : Nat) : Int) = 0 by omega] at r0
        refine k251_83 u1 u2 u3 _ _ _ h1 _ ⟨fun _ => back _ h1 _ _ _ _ f1 r0 (fun h2 f2 y2 => ?_), fun d => absurd (by omega) d⟩
        have := kk h2 f2 y2
        rwa [show m = p - 1 by omega, ← b2i_congr hc] at this
      | succ f ih =>
        intro p c h1 u1 u2 u3 hp p1 hc f1 r1 kk
        have rs1 := rpt_s (rn := rn) (rt := rt) (rs := rs) (w := w) (S := S) (m := p - 1)
        rw [show p - 1 + 1 = p by omega] at rs1
        refine k251_83 u1 u2 u3 _ _ _ h1 _ ⟨fun d => absurd d (by omega), fun _ => s247 (m := 0) (Y := fun i => sqS rn rt rs w i S) (by omega) (fun i hi => r1 i (by omega)) (fun i hi => (G i (by omega)).hn) ⟨fun d => ⟨by unfold inR; omega, ?_⟩, fun d => ⟨by unfold inR; omega, ?_⟩⟩⟩
        · rw [b2i_eq0] at d
          exact ih (p + 1) c h1 u1 u2 u3 (by omega) (by omega) (by rw [show p + 1 - 1 = p by omega, rs1, hc]; exact ⟨Or.inl, fun q => by rcases q with q | q; exact q; exact absurd q d⟩) f1 r1 kk
        · rw [b2i_ne0] at d
          have := ih (p + 1) True h1 u1 u2 u3 (by omega) (by omega) (by rw [show p + 1 - 1 = p by omega, rs1]; exact ⟨fun _ => Or.inr d, fun _ => trivial⟩) f1 r1 kk
          rw [b2i_pos trivial] at this
          exact this
    have r00 : ¬ rpt rn rt rs w S (1 - 1) := by rintro ⟨p, p1, p2, _⟩; omega
    refine ⟨by omega, by omega, fun d => ⟨fun d1 => ?_, fun d1 => ?_⟩, fun d => s229 gm y14 o (u.rr o (F14.mo (fun b k q => by unfold mrA; rcases q with q | q | q; exact Or.inl q; exact Or.inr (Or.inl q); exact Or.inr (Or.inr (Or.inr q))))) (fun h15 f15 e15 => ⟨fun d1 => ?_, fun d1 => absurd (Classical.not_not.1 d1) (by omega)⟩)⟩
    · rw [if_pos (by omega)] at k
      rw [y14.1.1]
      exact back _ h14 _ _ _ _ F14 r0 k
    · rw [if_neg (by omega), if_neg d] at k
      have := rep m 1 False h14 (vI w) (vI q) (vI z) (by omega) (by omega) ⟨fun q => q.elim, fun q => r00 q⟩ F14 r14 k
      rw [b2i_neg (fun q => q)] at this
      exact this
    · rw [if_neg (by omega), if_pos (Classical.not_not.1 d)] at k
      rw [e15.1]
      exact back _ h15 _ _ _ _ (F14.tr (f15.mo (fun b k q => Or.inl (Or.inl (Or.inl q))))) (r0.fr hn f15 (fun k _ _ => by unfold meA edA gWB gWA; omega)) k
end AG
