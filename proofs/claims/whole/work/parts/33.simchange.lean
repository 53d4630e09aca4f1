/-! change, both sides -/
section SC
variable {σ : XSt} {τ : MSt} {R : Nat} {lv : Nat → Bool} {hs : Nat → Int32} {ho hh cc : Nat → Nat} {cm : Nat → Int32} {L0 : List Lk} {g : List Nat} {mo : Int32} {K : Nat} {h t : Nat}
theorem set_mid {α : Type} (a b : List α) (e x : α) : (a ++ e :: b).set a.length x = a ++ x :: b := by
  rw [List.set_append_right _ _ (Nat.le_refl _), Nat.sub_self]
  rfl
theorem era_mid {α : Type} (a b : List α) (e : α) : (a ++ e :: b).eraseIdx a.length = a ++ b := by
  rw [List.eraseIdx_append_of_length_le (Nat.le_refl _), Nat.sub_self]
  rfl
theorem era_gt {α : Type} (a b : List α) (e : α) {k : Nat} (hk : a.length < k) : (a ++ e :: b).eraseIdx k = a ++ e :: b.eraseIdx (k - a.length - 1) := by
  rw [List.eraseIdx_append_of_length_le (by omega), show k - a.length = (k - a.length - 1) + 1 by omega]
  rfl
theorem get_mid {α : Type} (a b : List α) (e : α) : (a ++ e :: b)[a.length]? = some e := by
  rw [List.getElem?_append_right (Nat.le_refl _), Nat.sub_self]
  rfl
theorem twin_ne {P1 Q : List Lk} {f d k : Nat} (hne : ¬ h = t) (hq : fdS (f, d, t) 0 (P1 ++ (f, d, h) :: Q) = some k) : ¬ k = P1.length ∧ k < (P1 ++ (f, d, h) :: Q).length := by
  obtain ⟨-, q2⟩ := fdS_some hq
  rw [Nat.sub_zero] at q2
  refine ⟨fun q => ?_, (List.getElem?_eq_some_iff.mp q2).1⟩
  subst q
  rw [get_mid] at q2
  have : ((f, d, h) : Lk) = (f, d, t) := by simpa using q2
  exact hne (congrArg (fun v => v.2.2) this)
theorem xSend {P1 Q : List Lk} {f d : Nat} (hK : 300 ≤ K) (hne : ¬ h = t) (hx : rX σ R lv hs ho cc cm (P1 ++ (f, d, h) :: Q) g mo) (hb : ∀ e ∈ P1 ++ (f, d, h) :: Q, e.1 ≤ 60 ∧ e.2.1 ≤ 9 ∧ e.2.2 ≤ 99) (hl : (P1 ++ (f, d, h) :: Q).length ≤ 200) (ht : t ≤ 99) : ∃ σ', fX_sendToHeading K (nI P1.length) (nI t) σ = some (0, σ') ∧ rX σ' R lv hs ho cc cm (stepL P1 Q (f, d, t) P1.length (fdS (f, d, t) 0 (P1 ++ (f, d, h) :: Q))) g mo := by
  have he := get_mid P1 Q ((f, d, h) : Lk)
  have hlen : (P1 ++ (f, d, h) :: Q).length = P1.length + (Q.length + 1) := by rw [List.length_append, List.length_cons]
  obtain ⟨b1, b2, b3⟩ := hb _ (List.mem_of_getElem? he)
  dsimp only at b1 b2 b3
  obtain ⟨e1, e2, e3⟩ := hx.2.2.2.2.2.2.1.2 _ _ he
  have hin := inN (r := P1.length) (N := 200) (by omega) (by omega)
  have hcl : (nI P1.length).toNatClampNeg = P1.length := nI_clamp (by omega)
  have hfind : fX_findLink K (nI f) (nI d) (nI t) σ = some (o2i (fdS (f, d, t) 0 (P1 ++ (f, d, h) :: Q)), σ) := xFind b1 b2 ht hx hb hl _ 0 K rfl (by omega) (by omega)
  have hset : rX (x_plinkTo σ (upd (x_linkTo σ) P1.length (nI t))) R lv hs ho cc cm (P1 ++ (f, d, t) :: Q) g mo := by
    obtain ⟨a1, a2, a3, a4, a5, a6, a7, a8, a9⟩ := hx
    have := LR_set (t := t) a7 he
    rw [set_mid] at this
    exact ⟨a1, a2, a3, a4, a5, a6, this, a8, a9⟩
  have hl2 : (P1 ++ (f, d, t) :: Q).length ≤ 200 := by rw [List.length_append, List.length_cons]; omega
  unfold fX_sendToHeading
  simp only [if_neg hin]
  rw [hcl, e1, e2, hfind, Option.bind_some]
  dsimp only
  cases hq : fdS (f, d, t) 0 (P1 ++ (f, d, h) :: Q) with
  | none =>
    rw [show o2i none = -1 from rfl, if_pos rfl]
    exact ⟨_, rfl, hset⟩
  | some k =>
    obtain ⟨k1, k2⟩ := twin_ne hne hq
    rw [show o2i (some k) = nI k from rfl, if_neg (nI_m1 (by omega))]
    unfold stepL
    dsimp only
    by_cases ck : k < P1.length
    · rw [if_neg (nI_nlt (by omega) (by omega)), if_pos ck]
      obtain ⟨σ2, y1, y2⟩ := xRemove (K := K) (k := P1.length) (by rw [List.length_append, List.length_cons]; omega) hl2 hset
      rw [era_mid] at y2
      rw [y1]
      exact ⟨σ2, rfl, y2⟩
    · rw [if_pos (nI_lt (by omega) (by omega)), if_neg ck]
      obtain ⟨σ2, y1, y2⟩ := xRemove (K := K) (k := k) (by rw [List.length_append, List.length_cons]; omega) hl2 hset
      rw [era_gt _ _ _ (by omega)] at y2
      rw [y1]
      exact ⟨σ2, rfl, y2⟩
/-- the answer of both loops -/
def chD (h t : Nat) (L0 : List Lk) : List Lk := ddup (L0.map (sbH h t))
theorem xChL (hK : 300 ≤ K) (hne : ¬ h = t) (hh1 : h ≤ 99) (ht1 : 1 ≤ t) (ht2 : t ≤ 99) (h60 : R ≤ 60) (hlv : ∀ j, lv j = true → 1 ≤ j ∧ j ≤ R) (hc : ∀ j, cc j ≤ 40) : ∀ (m n : Nat) (σ : XSt) (P : Nat → Bool) (cnt : Nat) (A S : List Lk), rX σ R lv hs ho (nsC mo cc cm P) (nsM mo cc cm P) (A ++ S) g mo → CG h t R lv ho L0 (A ++ S) P cnt → (∀ e ∈ S, isH h e = false) → A.length = m → m < n → ∃ σ', gX_change_41 K n (nI h) (nI t) (nI cnt) (ixM m) σ = some (nI (L0.countP (isH h)), σ') ∧ rX σ' R lv hs ho (nsC mo cc cm (anyH h L0)) (nsM mo cc cm (anyH h L0)) (chD h t L0) g mo ∧ IL R lv (chD h t L0) ∧ IH lv ho (chD h t L0) := by
  intro m
  induction m with
  | zero =>
    intro n σ P cnt A S hx hC hS hA hn
    cases n with
    | zero => omega
    | succ n =>
      have hA0 : A = [] := List.length_eq_zero_iff.mp hA
      subst hA0
      rw [List.nil_append] at hx hC
      obtain ⟨q1, q2, q3⟩ := CG_end hC hS
      rw [gX_change_41, ixM_0, if_pos ix_m1]
      refine ⟨σ, by rw [q3], ?_, ?_, ?_⟩
      · rw [q2, q1] at hx; exact hx
      · have := hC.2.1; rw [q1] at this; exact this
      · have := hC.2.2.1; rw [q1] at this; exact this
  | succ m ih =>
    intro n σ P cnt A S hx hC hS hA hn
    cases n with
    | zero => omega
    | succ n =>
      obtain ⟨A0, e, rfl, hA0⟩ := cat_last hA
      have e7 : A0 ++ [e] ++ S = A0 ++ e :: S := by simp
      rw [e7] at hx hC
      have hb := hC.2.1.b h60 hlv
      have hl : (A0 ++ e :: S).length ≤ 200 := hC.2.1.2.2.1
      have hlen : (A0 ++ e :: S).length = A0.length + (S.length + 1) := by rw [List.length_append, List.length_cons]
      have he := get_mid A0 S e
      obtain ⟨b1, b2, b3⟩ := hb e (List.mem_of_getElem? he)
      obtain ⟨e1, e2, e3⟩ := hx.2.2.2.2.2.2.1.2 _ _ he
      subst hA0
      have hin := inN (r := A0.length) (N := 200) (by omega) (by omega)
      have hcl : (nI A0.length).toNatClampNeg = A0.length := nI_clamp (by omega)
      have next : isH h e = false → ∃ σ', gX_change_41 K n (nI h) (nI t) (nI cnt) (ixM A0.length) σ = some (nI (L0.countP (isH h)), σ') ∧ rX σ' R lv hs ho (nsC mo cc cm (anyH h L0)) (nsM mo cc cm (anyH h L0)) (chD h t L0) g mo ∧ IL R lv (chD h t L0) ∧ IH lv ho (chD h t L0) := by
        intro hq
        refine ih n σ P cnt A0 (e :: S) hx hC (fun x hx => ?_) rfl (by omega)
        rcases List.mem_cons.mp hx with q | q
        · rw [q]; exact hq
        · exact hS x q
      rw [ixM_s, gX_change_41, if_neg (nI_pos (by omega))]
      simp only [if_neg hin]
      rw [hcl, e1, e2, e3, ixM_dec]
      by_cases c1 : e.2.1 < 4
      · rw [if_pos (show nI e.2.1 < 4 from nI_lt (b := 4) c1 (by omega))]
        exact next (by simp [isH]; omega)
      · rw [if_neg (show ¬ nI e.2.1 < 4 from nI_nlt (b := 4) (by omega) (by omega))]
        by_cases c2 : e.2.2 = h
        · rw [if_pos (by rw [c2])]
          obtain ⟨f, d, u⟩ := e
          dsimp only at c1 c2 b1 b2 b3
          subst c2
          obtain ⟨σ1, w1, w2⟩ := xNote (K := K) (r := f) b1 (nsC_le hc f) hx
          rw [ntC_ns hc, ntM_ns hc] at w2
          obtain ⟨σ2, y1, y2⟩ := xSend (K := K) hK hne w2 hb hl ht2
          have hC2 := CG_step hne ht1 ht2 (by omega) hC
          dsimp only
          rw [w1, Option.bind_some]
          dsimp only
          rw [y1, Option.bind_some]
          dsimp only
          rw [nI_1]
          have hH' : isH u (f, d, t) = false := by
            have : ¬ t = u := fun q => hne q.symm
            simp [isH, this]
          have form : ∃ S', stepL A0 S (f, d, t) A0.length (fdS (f, d, t) 0 (A0 ++ (f, d, u) :: S)) = A0 ++ S' ∧ ∀ x ∈ S', isH u x = false := by
            cases fdS (f, d, t) 0 (A0 ++ (f, d, u) :: S) with
            | none =>
              refine ⟨(f, d, t) :: S, rfl, fun x hx => ?_⟩
              rcases List.mem_cons.mp hx with q | q
              · rw [q]; exact hH'
              · exact hS x q
            | some k =>
              unfold stepL
              dsimp only
              by_cases ck : k < A0.length
              · rw [if_pos ck]
                exact ⟨S, rfl, hS⟩
              · rw [if_neg ck]
                refine ⟨_, rfl, fun x hx => ?_⟩
                rcases List.mem_cons.mp hx with q | q
                · rw [q]; exact hH'
                · exact hS x (List.mem_of_mem_eraseIdx q)
          obtain ⟨S', f1, f2⟩ := form
          rw [f1] at y2 hC2
          exact ih n σ2 _ (cnt + 1) A0 S' y2 hC2 f2 rfl (by omega)
        · rw [if_neg (fun q => c2 (nI_inj (by omega) (by omega) q))]
          exact next (by simp [isH, c2])
theorem mChL (hK : 300 ≤ K) (hne : ¬ h = t) (hh1 : h ≤ 99) (ht1 : 1 ≤ t) (ht2 : t ≤ 99) (h60 : R ≤ 60) (hlv : ∀ j, lv j = true → 1 ≤ j ∧ j ≤ R) (hc : ∀ j, cc j ≤ 40) : ∀ (n : Nat) (τ : MSt) (P : Nat → Bool) (cnt : Nat) (S B : List Lk), rM τ R lv hs hh (nsC mo cc cm P) (nsM mo cc cm P) (S ++ B) g mo → CG h t R lv ho L0 (S ++ B) P cnt → (∀ e ∈ S, isH h e = false) → B.length < n → ∃ τ', gM_change_41 K n (nI h) (nI t) (nI cnt) (nI S.length) τ = some (nI (L0.countP (isH h)), τ') ∧ rM τ' R lv hs hh (nsC mo cc cm (anyH h L0)) (nsM mo cc cm (anyH h L0)) (chD h t L0) g mo := by
  intro n
  induction n with
  | zero => intro τ P cnt S B _ _ _ hn; omega
  | succ n ih =>
    intro τ P cnt S B hm hC hS hn
    cases B with
    | nil =>
      have hl : (S ++ []).length ≤ 200 := hC.2.1.2.2.1
      rw [List.append_nil] at hm hC hl
      obtain ⟨q1, q2, q3⟩ := CG_end hC hS
      rw [gM_change_41, hm.2.2.2.2.2.2.1.1, if_pos (nI_le (Nat.le_refl _) (by omega))]
      refine ⟨τ, by rw [q3], ?_⟩
      rw [q2, q1] at hm
      exact hm
    | cons e B =>
      have hb := hC.2.1.b h60 hlv
      have hl : (S ++ e :: B).length ≤ 200 := hC.2.1.2.2.1
      have hlen : (S ++ e :: B).length = S.length + (B.length + 1) := by rw [List.length_append, List.length_cons]
      simp only [List.length_cons] at hn
      have he := get_mid S B e
      obtain ⟨b1, b2, b3⟩ := hb e (List.mem_of_getElem? he)
      obtain ⟨e1, e2, e3⟩ := hm.2.2.2.2.2.2.1.2 _ _ he
      have hin := inN (r := S.length) (N := 200) (by omega) (by omega)
      have hcl : (nI S.length).toNatClampNeg = S.length := nI_clamp (by omega)
      have next : isH h e = false → ∃ τ', gM_change_41 K n (nI h) (nI t) (nI cnt) (nI (S.length + 1)) τ = some (nI (L0.countP (isH h)), τ') ∧ rM τ' R lv hs hh (nsC mo cc cm (anyH h L0)) (nsM mo cc cm (anyH h L0)) (chD h t L0) g mo := by
        intro hq
        have e7 : S ++ e :: B = (S ++ [e]) ++ B := by simp
        rw [e7] at hm hC
        have := ih τ P cnt (S ++ [e]) B hm hC (fun x hx => by
          rcases List.mem_append.mp hx with q | q
          · exact hS x q
          · rw [List.mem_singleton.mp q]; exact hq) (by omega)
        rw [List.length_append, List.length_singleton] at this
        exact this
      rw [gM_change_41, hm.2.2.2.2.2.2.1.1, if_neg (nI_ge (by omega) (by omega))]
      simp only [if_neg hin]
      rw [hcl, e1, e2, e3, nI_1]
      by_cases c1 : e.2.1 < 4
      · rw [if_pos (show nI e.2.1 ≤ 3 from nI_le (b := 3) (by omega) (by omega))]
        exact next (by simp [isH]; omega)
      · rw [if_neg (show ¬ nI e.2.1 ≤ 3 from nI_ge (a := 3) (by omega) (by omega))]
        by_cases c2 : e.2.2 = h
        · rw [if_pos (by rw [c2])]
          obtain ⟨f, d, u⟩ := e
          dsimp only at c1 c2 b1 b2 b3
          subst c2
          obtain ⟨τ1, w1, w2⟩ := mNote (K := K) (r := f) b1 (nsC_le hc f) hm
          rw [ntC_ns hc, ntM_ns hc] at w2
          have hC2 := CG_step hne ht1 ht2 (by omega) hC
          obtain ⟨g1, g2, g3⟩ := w2.2.2.2.2.2.2.1.2 _ _ he
          have hfind : fM_find K (nI f) (nI d) (nI t) τ1 = some (o2i (fdS (f, d, t) 0 (S ++ (f, d, u) :: B)), τ1) := mFind b1 b2 ht2 w2 hb hl _ 0 K rfl (by omega) (by omega)
          have hset : rM (m_pto τ1 (upd (m_to τ1) S.length (nI t))) R lv hs hh (nsC mo cc cm (fun j => P j || j == f)) (nsM mo cc cm (fun j => P j || j == f)) (S ++ (f, d, t) :: B) g mo := by
            obtain ⟨a1, a2, a3, a4, a5, a6, a7, a8, a9⟩ := w2
            have := LR_set (t := t) a7 he
            rw [set_mid] at this
            exact ⟨a1, a2, a3, a4, a5, a6, this, a8, a9⟩
          have hl2 : (S ++ (f, d, t) :: B).length ≤ 200 := by rw [List.length_append, List.length_cons]; omega
          have hH' : isH u (f, d, t) = false := by
            have : ¬ t = u := fun q => hne q.symm
            simp [isH, this]
          have hS' : ∀ x ∈ S ++ [(f, d, t)], isH u x = false := fun x hx => by
            rcases List.mem_append.mp hx with q | q
            · exact hS x q
            · rw [List.mem_singleton.mp q]; exact hH'
          dsimp only
          rw [w1, Option.bind_some]
          dsimp only
          rw [g1, g2, hfind, Option.bind_some]
          dsimp only
          cases hq : fdS (f, d, t) 0 (S ++ (f, d, u) :: B) with
          | none =>
            rw [show o2i none = -1 from rfl, if_pos rfl, nI_1]
            rw [hq] at hC2
            have e8 : S ++ (f, d, t) :: B = (S ++ [(f, d, t)]) ++ B := by simp
            have hC3 : CG u t R lv ho L0 (S ++ (f, d, t) :: B) (fun j => P j || j == f) (cnt + 1) := hC2
            rw [e8] at hset hC3
            have := ih _ _ (cnt + 1) (S ++ [(f, d, t)]) B hset hC3 hS' (by omega)
            rw [List.length_append, List.length_singleton] at this
            exact this
          | some k =>
            obtain ⟨k1, k2⟩ := twin_ne hne hq
            rw [show o2i (some k) = nI k from rfl, if_neg (nI_m1 (by omega)), nI_1, Int32.add_zero]
            rw [hq] at hC2
            by_cases ck : k < S.length
            · rw [if_neg (nI_ge ck (by omega))]
              obtain ⟨τ2, y1, y2⟩ := mDrop (K := K) (k := S.length) hK (by omega) hl w2
              rw [era_mid] at y2
              rw [y1, Option.bind_some]
              dsimp only
              have hC3 : CG u t R lv ho L0 (if k < S.length then S ++ B else S ++ (f, d, t) :: B.eraseIdx (k - S.length - 1)) (fun j => P j || j == f) (cnt + 1) := hC2
              rw [if_pos ck] at hC3
              exact ih _ _ (cnt + 1) S B y2 hC3 hS (by omega)
            · rw [if_pos (nI_le (by omega) (by omega))]
              obtain ⟨τ2, y1, y2⟩ := mDrop (K := K) (k := k) hK (by rw [List.length_append, List.length_cons]; omega) hl2 hset
              rw [era_gt _ _ _ (by omega)] at y2
              rw [y1, Option.bind_some]
              dsimp only
              have hC3 : CG u t R lv ho L0 (if k < S.length then S ++ B else S ++ (f, d, t) :: B.eraseIdx (k - S.length - 1)) (fun j => P j || j == f) (cnt + 1) := hC2
              rw [if_neg ck] at hC3
              have e8 : S ++ (f, d, t) :: B.eraseIdx (k - S.length - 1) = (S ++ [(f, d, t)]) ++ B.eraseIdx (k - S.length - 1) := by simp
              rw [e8] at y2 hC3
              have hle : (B.eraseIdx (k - S.length - 1)).length ≤ B.length := List.length_eraseIdx_le ..
              have := ih _ _ (cnt + 1) (S ++ [(f, d, t)]) _ y2 hC3 hS' (by omega)
              rw [List.length_append, List.length_singleton] at this
              exact this
        · rw [if_neg (fun q => c2 (nI_inj (by omega) (by omega) q))]
          exact next (by simp [isH, c2])
theorem xCh_bad {p q : Int32} {σ1 : XSt} (hσ : σ1 = x_pmoment σ (x_moment σ + 1)) (hbad : headI p = false ∨ headI q = false ∨ p = q) : fX_change K p q σ = some (0, σ1) := by
  subst hσ
  unfold fX_change
  rw [xHead, Option.bind_some]
  dsimp only
  cases h1 : headI p
  · rw [if_pos bF]
  · rw [if_neg bT, xHead, Option.bind_some]
    dsimp only
    cases h2 : headI q
    · rw [if_pos bF]
    · rw [if_neg bT]
      rcases hbad with b | b | b
      · rw [h1] at b; cases b
      · rw [h2] at b; cases b
      · rw [if_pos b]
theorem xCh_ok {p q : Int32} (h1 : headI p = true) (h2 : headI q = true) (h3 : ¬ p = q) : fX_change K p q σ = gX_change_41 K K p q 0 (x_links (x_pmoment σ (x_moment σ + 1)) - 1) (x_pmoment σ (x_moment σ + 1)) := by
  unfold fX_change
  rw [xHead, Option.bind_some]
  dsimp only
  rw [h1, if_neg bT, xHead, Option.bind_some]
  dsimp only
  rw [h2, if_neg bT, if_neg h3]
theorem mCh_bad {p q : Int32} (hbad : headI p = false ∨ headI q = false ∨ p = q) : fM_change K p q τ = some (0, mT1 τ) := by
  unfold fM_change
  show ((fM_isHeading K p (mT1 τ)).bind _) = _
  rw [mHead, Option.bind_some]
  dsimp only
  cases h1 : headI p
  · rw [if_pos bF]
  · rw [if_neg bT, mHead, Option.bind_some]
    dsimp only
    cases h2 : headI q
    · rw [if_pos bF]
    · rw [if_neg bT]
      rcases hbad with b | b | b
      · rw [h1] at b; cases b
      · rw [h2] at b; cases b
      · rw [if_pos b]
theorem mCh_ok {p q : Int32} (h1 : headI p = true) (h2 : headI q = true) (h3 : ¬ p = q) : fM_change K p q τ = gM_change_41 K K p q 0 0 (mT1 τ) := by
  unfold fM_change
  show ((fM_isHeading K p (mT1 τ)).bind _) = _
  rw [mHead, Option.bind_some]
  dsimp only
  rw [h1, if_neg bT, mHead, Option.bind_some]
  dsimp only
  rw [h2, if_neg bT, if_neg h3]
theorem sim_change (hK : 300 ≤ K) (hR : Rel σ τ) (p q : Int32) : Sim (fX_change K p q σ) (fM_change K p q τ) := by
  obtain ⟨R, lv, hs, ho, hh, cc, cm, L, g, mo, hx, hm, hL, hH, hN⟩ := hR
  have hx' : rX (x_pmoment σ (x_moment σ + 1)) R lv hs ho cc cm L g (mo + 1) := by
    rw [hx.2.2.2.2.2.2.2.2]; exact rX_mom hx (mo + 1)
  have hm' : rM (mT1 τ) R lv hs hh cc cm L g (mo + 1) := by
    unfold mT1
    rw [hm.2.2.2.2.2.2.2.2]; exact rM_mom hm 0 (mo + 1)
  have hc : LkC K (x_pmoment σ (x_moment σ + 1)) (mT1 τ) R lv hs ho hh cc cm L g (mo + 1) := ⟨hK, hx', hm', hL, hH, hN⟩
  have h200 : L.length ≤ 200 := hL.2.2.1
  by_cases hbad : headI p = false ∨ headI q = false ∨ p = q
  · exact ⟨0, _, _, xCh_bad rfl hbad, mCh_bad hbad, hc.rel⟩
  · have h1 : headI p = true := by
      cases c : headI p
      · exact absurd (Or.inl c) hbad
      · rfl
    have h2 : headI q = true := by
      cases c : headI q
      · exact absurd (Or.inr (Or.inl c)) hbad
      · rfl
    have h3 : ¬ p = q := fun c => hbad (Or.inr (Or.inr c))
    have eX := xCh_ok (K := K) (σ := σ) h1 h2 h3
    have eM := mCh_ok (K := K) (τ := τ) h1 h2 h3
    obtain ⟨a, a1, a2, rfl⟩ := headI_t h1
    obtain ⟨b, b1, b2, rfl⟩ := headI_t h2
    have hab : ¬ a = b := fun c => h3 (by rw [c])
    rw [hx'.2.2.2.2.2.2.1.1, ixM_len] at eX
    have hCG : CG a b R lv ho L L (fun _ => false) 0 := ⟨rfl, hL, hH, fun r => Bool.false_or _, Nat.zero_add _⟩
    have hx2 : rX (x_pmoment σ (x_moment σ + 1)) R lv hs ho (nsC (mo + 1) cc cm (fun _ => false)) (nsM (mo + 1) cc cm (fun _ => false)) (L ++ []) g (mo + 1) := by
      rw [nsC_0, nsM_0, List.append_nil]; exact hx'
    have hm2 : rM (mT1 τ) R lv hs hh (nsC (mo + 1) cc cm (fun _ => false)) (nsM (mo + 1) cc cm (fun _ => false)) ([] ++ L) g (mo + 1) := by
      rw [nsC_0, nsM_0]; exact hm'
    obtain ⟨σ2, y1, y2, y3, y4⟩ := xChL (K := K) (L0 := L) hK hab a2 b1 b2 hN.1 hN.2.1 hN.2.2.1 L.length K _ (fun _ => false) 0 L [] hx2 (by rw [List.append_nil]; exact hCG) (fun e he => by simp at he) rfl (by omega)
    obtain ⟨τ2, z1, z2⟩ := mChL (K := K) (L0 := L) (ho := ho) hK hab a2 b1 b2 hN.1 hN.2.1 hN.2.2.1 K _ (fun _ => false) 0 [] L hm2 hCG (fun e he => by simp at he) (by omega)
    refine ⟨_, σ2, τ2, eX.trans y1, eM.trans z1, R, lv, hs, ho, hh, _, _, _, g, mo + 1, y2, z2, y3, y4, ?_⟩
    obtain ⟨n1, n2, n3, n4, n5, n6, n7, n8⟩ := hN
    exact ⟨n1, n2, nsC_le n3, n4, n5, n6, n7, n8⟩
end SC
