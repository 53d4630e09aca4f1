/-! delete -/
/-- the index below m, as the class has it: -1 at the end -/
def ixM (m : Nat) : Int32 := if m = 0 then -1 else nI (m - 1)
theorem ixM_s (m : Nat) : ixM (m + 1) = nI m := by simp [ixM]
theorem ixM_0 : ixM 0 = -1 := rfl
theorem ixM_len (n : Nat) : nI n - 1 = ixM n := by
  cases n with
  | zero => decide
  | succ n => rw [ixM_s]; exact nI_pred n
theorem ixM_dec (m : Nat) : nI m + (-1) = ixM m := by
  cases m with
  | zero => decide
  | succ m => rw [ixM_s]; exact pk_m1 m
theorem ix_m1 : (-1 : Int32) < 0 := by decide
theorem cat_last {α : Type} {A : List α} {m : Nat} (h : A.length = m + 1) : ∃ A0 e, A = A0 ++ [e] ∧ A0.length = m := by
  rcases List.eq_nil_or_concat A with q | ⟨A0, e, q⟩
  · rw [q] at h; simp at h
  · rw [List.concat_eq_append] at q
    exact ⟨A0, e, q, by rw [q] at h; simp at h; exact h⟩
section DE
variable {σ : XSt} {τ : MSt} {R : Nat} {lv : Nat → Bool} {hs : Nat → Int32} {ho hh cc : Nat → Nat} {cm : Nat → Int32} {L : List Lk} {g : List Nat} {mo : Int32} {K : Nat}
theorem nC_again {r : Nat} (hc : cc r ≤ 40) : nC mo (ntC mo cc cm r) (ntM mo cc cm r) r = false := by
  unfold ntC ntM
  by_cases c : nC mo cc cm r = true
  · rw [if_pos c, if_pos c]
    unfold nC
    rw [up_s]
    have : 40 * r + (cc r + 1) - 1 = 40 * r + cc r := by omega
    rw [this, pk_us]
    simp
  · rw [if_neg c, if_neg c]
    simpa using c
theorem ntC_again {r : Nat} (hc : cc r ≤ 40) : ntC mo (ntC mo cc cm r) (ntM mo cc cm r) r = ntC mo cc cm r := by
  have h := nC_again (mo := mo) (cm := cm) hc
  rw [ntC, h]
  simp
theorem ntM_again {r : Nat} (hc : cc r ≤ 40) : ntM mo (ntC mo cc cm r) (ntM mo cc cm r) r = ntM mo cc cm r := by
  have h := nC_again (mo := mo) (cm := cm) hc
  rw [ntM, h]
  simp
/-- noted, if b -/
def bC (b : Bool) (mo : Int32) (cc : Nat → Nat) (cm : Nat → Int32) (r : Nat) : Nat → Nat := if b = true then ntC mo cc cm r else cc
def bM (b : Bool) (mo : Int32) (cc : Nat → Nat) (cm : Nat → Int32) (r : Nat) : Nat → Int32 := if b = true then ntM mo cc cm r else cm
theorem bC_t {b : Bool} {r : Nat} (hc : cc r ≤ 40) : ntC mo (bC b mo cc cm r) (bM b mo cc cm r) r = bC true mo cc cm r := by
  cases b
  · rfl
  · exact ntC_again hc
theorem bM_t {b : Bool} {r : Nat} (hc : cc r ≤ 40) : ntM mo (bC b mo cc cm r) (bM b mo cc cm r) r = bM true mo cc cm r := by
  cases b
  · rfl
  · exact ntM_again hc
theorem bC_le {b : Bool} {r : Nat} (hc : ∀ j, cc j ≤ 40) : ∀ j, bC b mo cc cm r j ≤ 40 := by
  cases b
  · exact hc
  · exact ntC_le hc
theorem xDelL {r : Nat} (hr : r ≤ 60) (hc : ∀ j, cc j ≤ 40) : ∀ (m n : Nat) (σ : XSt) (b : Bool) (A S : List Lk), rX σ R lv hs ho (bC b mo cc cm r) (bM b mo cc cm r) (A ++ S) g mo → (∀ e ∈ A ++ S, e.1 ≤ 60) → (A ++ S).length ≤ 200 → A.length = m → m < n → ∃ σ', gX_removeLinksOf_7 K n (nI r) (ixM m) σ = some (0, σ') ∧ rX σ' R lv hs ho (bC (b || A.any (fun e => e.1 == r)) mo cc cm r) (bM (b || A.any (fun e => e.1 == r)) mo cc cm r) (A.filter (fun e => !(e.1 == r)) ++ S) g mo := by
  intro m
  induction m with
  | zero =>
    intro n σ b A S hx hb hl hA hn
    cases n with
    | zero => omega
    | succ n =>
      have hA0 : A = [] := List.length_eq_zero_iff.mp hA
      subst hA0
      rw [gX_removeLinksOf_7, ixM_0, if_pos ix_m1]
      refine ⟨σ, rfl, ?_⟩
      rw [List.any_nil, Bool.or_false]
      exact hx
  | succ m ih =>
    intro n σ b A S hx hb hl hA hn
    cases n with
    | zero => omega
    | succ n =>
      obtain ⟨A0, e, rfl, hA0⟩ := cat_last hA
      have hlen : (A0 ++ [e] ++ S).length = m + 1 + S.length := by rw [List.length_append, hA]
      have he : (A0 ++ [e] ++ S)[m]? = some e := by
        rw [List.append_assoc, List.getElem?_append_right (by omega), hA0, Nat.sub_self]
        rfl
      have he60 := hb e (List.mem_of_getElem? he)
      obtain ⟨e1, -, -⟩ := hx.2.2.2.2.2.2.1.2 m e he
      rw [ixM_s, gX_removeLinksOf_7, if_neg (nI_pos (by omega)), if_neg (inN (by omega) (by omega)), nI_clamp (by omega), e1, ixM_dec]
      have hers : (A0 ++ [e] ++ S).eraseIdx m = A0 ++ S := by
        obtain ⟨a, b', q1, q2, q3, -⟩ := spl he
        have : A0 = a ∧ [e] ++ S = e :: b' := List.append_inj (by rw [← q1, List.append_assoc]) (by omega)
        rw [q3, ← this.1]
        have := this.2
        simp at this
        rw [this]
      rw [List.any_append, List.filter_append]
      by_cases c : e.1 = r
      · rw [if_pos (by rw [c])]
        obtain ⟨σ1, w1, w2⟩ := xNote (K := K) (r := r) hr (bC_le hc r) hx
        rw [bC_t (hc r), bM_t (hc r)] at w2
        obtain ⟨σ2, y1, y2⟩ := xRemove (K := K) (k := m) (by omega) hl w2
        rw [hers] at y2
        rw [w1, Option.bind_some]
        dsimp only
        rw [y1, Option.bind_some]
        dsimp only
        obtain ⟨σ3, z1, z2⟩ := ih n σ2 true A0 S y2 (fun x hx => hb x (by
          rw [List.append_assoc]
          rcases List.mem_append.mp hx with q | q
          · exact List.mem_append_left _ q
          · exact List.mem_append_right _ (List.mem_append_right _ q))) (by rw [List.length_append] at hl ⊢; rw [List.length_append] at hl; omega) hA0 (by omega)
        refine ⟨σ3, z1, ?_⟩
        have e5 : (b || (A0.any (fun e => e.1 == r) || [e].any (fun e => e.1 == r))) = (true || A0.any (fun e => e.1 == r)) := by simp [c]
        have e6 : [e].filter (fun e => !(e.1 == r)) = [] := by simp [c]
        rw [e5, e6, List.append_nil]
        exact z2
      · rw [if_neg (fun q => c (nI_inj (by omega) (by omega) q))]
        rw [List.append_assoc] at hx hb hl
        obtain ⟨σ3, z1, z2⟩ := ih n σ b A0 ([e] ++ S) hx hb hl hA0 (by omega)
        refine ⟨σ3, z1, ?_⟩
        have cb : (e.1 == r) = false := beq_false_of_ne c
        have e5 : (b || (A0.any (fun e => e.1 == r) || [e].any (fun e => e.1 == r))) = (b || A0.any (fun e => e.1 == r)) := by simp [cb]
        have e6 : [e].filter (fun e => !(e.1 == r)) = [e] := by simp [c]
        rw [e5, e6, List.append_assoc]
        exact z2
theorem mDelL {r : Nat} {x2 : Int32} {kk : Int32 → Int32 → Int32 → MSt → Option (Int32 × MSt)} (hK : 300 ≤ K) (hr : r ≤ 60) (hc : ∀ j, cc j ≤ 40) : ∀ (B S : List Lk) (n : Nat) (τ : MSt) (b : Bool), rM τ R lv hs hh (bC b mo cc cm r) (bM b mo cc cm r) (S ++ B) g mo → (∀ e ∈ S ++ B, e.1 ≤ 60) → (S ++ B).length ≤ 200 → B.length < n → ∃ τ', gM_delete_97 K kk n (nI r) x2 (nI S.length) τ = some (1, τ') ∧ rM τ' R lv hs hh (bC (b || B.any (fun e => e.1 == r)) mo cc cm r) (bM (b || B.any (fun e => e.1 == r)) mo cc cm r) (S ++ B.filter (fun e => !(e.1 == r))) g mo := by
  intro B
  induction B with
  | nil =>
    intro S n τ b hm hb hl hn
    cases n with
    | zero => simp at hn
    | succ n =>
      rw [gM_delete_97, hm.2.2.2.2.2.2.1.1, if_pos (nI_le (by simp) (by rw [List.append_nil] at hl; omega))]
      refine ⟨τ, rfl, ?_⟩
      rw [List.any_nil, Bool.or_false]
      exact hm
  | cons e B ih =>
    intro S n τ b hm hb hl hn
    cases n with
    | zero => simp at hn
    | succ n =>
      simp only [List.length_cons] at hn
      have hlen : (S ++ e :: B).length = S.length + (B.length + 1) := by rw [List.length_append, List.length_cons]
      have he : (S ++ e :: B)[S.length]? = some e := by
        rw [List.getElem?_append_right (by omega), Nat.sub_self]
        rfl
      have he60 := hb e (List.mem_of_getElem? he)
      obtain ⟨e1, -, -⟩ := hm.2.2.2.2.2.2.1.2 S.length e he
      rw [gM_delete_97, hm.2.2.2.2.2.2.1.1, if_neg (nI_ge (by omega) (by omega)), if_neg (inN (by omega) (by omega)), nI_clamp (by omega), e1]
      by_cases c : e.1 = r
      · rw [if_pos (by rw [c])]
        obtain ⟨τ1, w1, w2⟩ := mNote (K := K) (r := r) hr (bC_le hc r) hm
        rw [bC_t (hc r), bM_t (hc r)] at w2
        obtain ⟨τ2, y1, y2⟩ := mDrop (K := K) (k := S.length) hK (by omega) hl w2
        have hers : (S ++ e :: B).eraseIdx S.length = S ++ B := by
          rw [List.eraseIdx_append_of_length_le (Nat.le_refl _), Nat.sub_self]
          rfl
        rw [hers] at y2
        rw [w1, Option.bind_some]
        dsimp only
        rw [y1, Option.bind_some]
        dsimp only
        obtain ⟨τ3, z1, z2⟩ := ih S n τ2 true y2 (fun x hx => hb x (mem_mid.mpr (Or.inr hx))) (by rw [List.length_append]; omega) (by omega)
        refine ⟨τ3, z1, ?_⟩
        have e5 : (b || (e :: B).any (fun e => e.1 == r)) = (true || B.any (fun e => e.1 == r)) := by simp [c]
        have e6 : (e :: B).filter (fun e => !(e.1 == r)) = B.filter (fun e => !(e.1 == r)) := by simp [c]
        rw [e5, e6]
        exact z2
      · rw [if_neg (fun q => c (nI_inj (by omega) (by omega) q)), nI_1]
        have e7 : S ++ e :: B = (S ++ [e]) ++ B := by simp
        rw [e7] at hm hb hl
        obtain ⟨τ3, z1, z2⟩ := ih (S ++ [e]) n τ b hm hb hl (by omega)
        rw [List.length_append, List.length_singleton] at z1
        refine ⟨τ3, z1, ?_⟩
        have cb : (e.1 == r) = false := beq_false_of_ne c
        have e5 : (b || (e :: B).any (fun e => e.1 == r)) = (b || B.any (fun e => e.1 == r)) := by simp [cb]
        have e6 : (e :: B).filter (fun e => !(e.1 == r)) = e :: B.filter (fun e => !(e.1 == r)) := by simp [c]
        rw [e5, e6, show S ++ e :: B.filter (fun e => !(e.1 == r)) = (S ++ [e]) ++ B.filter (fun e => !(e.1 == r)) by simp]
        exact z2
/-- how many have r as host: by records, by links -/
def cHo (lv : Nat → Bool) (ho : Nat → Nat) (r : Nat) : Nat → Nat → Nat
  | 0, _ => 0
  | m + 1, k => (if (lv k && ho k == r) = true then 1 else 0) + cHo lv ho r m (k + 1)
theorem cHo_succ (lv : Nat → Bool) (ho : Nat → Nat) (r m k : Nat) : cHo lv ho r (m + 1) k = (if (lv k && ho k == r) = true then 1 else 0) + cHo lv ho r m (k + 1) := rfl
theorem xCount {r : Nat} (hr : r < 2 ^ 30) (hx : rX σ R lv hs ho cc cm L g mo) (h60 : R ≤ 60) (hho : ∀ j, ho j ≤ R) : ∀ (m k n a : Nat), 1 ≤ k → k + m = R + 1 → m < n → gX_countHostedBy_4 K n (nI r) (nI a) (nI k) σ = some (nI (a + cHo lv ho r m k), σ) := by
  have hv := hx.2.1
  have hh4 := hx.2.2.2.1
  intro m
  induction m with
  | zero =>
    intro k n a h1 h2 h3
    cases n with
    | zero => omega
    | succ n =>
      rw [gX_countHostedBy_4, hx.1, if_pos (nI_lt (by omega) (by omega))]
      rfl
  | succ m ih =>
    intro k n a h1 h2 h3
    cases n with
    | zero => omega
    | succ n =>
      have hin := inN (r := k) (N := 61) (by omega) (by omega)
      have hcl : (nI k).toNatClampNeg = k := nI_clamp (by omega)
      have hk := hho k
      have q1 : nI (ho k) = nI r ↔ ho k = r := nI_eq (by omega) (by omega)
      have i1 := fun a => ih (k + 1) n a (by omega) (by omega) (by omega)
      rw [gX_countHostedBy_4, hx.1, if_neg (nI_nlt (by omega) (by omega))]
      simp only [if_neg hin]
      simp only [hcl, hv, hh4, q1, nI_1, i1]
      rw [cHo_succ]
      cases hb : lv k
      · rw [if_pos bF, Bool.false_and, if_neg (by decide), Nat.zero_add]
      · rw [if_neg bT, Bool.true_and]
        by_cases c : ho k = r
        · rw [if_pos c, if_pos (by simp [c]), show a + 1 + cHo lv ho r m (k + 1) = a + (1 + cHo lv ho r m (k + 1)) by omega]
        · rw [if_neg c, if_neg (by simp [c]), Nat.zero_add]
def isHo (r : Nat) (e : Lk) : Bool := e.2.1 == 0 && e.2.2 == r
theorem mCntH {r : Nat} (hr : r < 2 ^ 30) (hm : rM τ R lv hs hh cc cm L g mo) (hb : ∀ e ∈ L, e.1 ≤ 60 ∧ e.2.1 ≤ 9 ∧ e.2.2 ≤ 99) (hl : L.length ≤ 200) : ∀ (l : List Lk) (j n a : Nat), L.drop j = l → j ≤ L.length → l.length < n → ∃ n', 0 < n' ∧ n ≤ n' + l.length ∧ gM_delete_29 K n (nI r) (nI a) (nI j) τ = gM_delete_29 K n' (nI r) (nI (a + l.countP (isHo r))) (nI L.length) τ := by
  have hL := hm.2.2.2.2.2.2.1
  intro l
  induction l with
  | nil =>
    intro j n a hdr hj hn
    have : j = L.length := by have := dr_nil hdr; omega
    subst this
    exact ⟨n, by simp at hn; omega, by simp, rfl⟩
  | cons e l ih =>
    intro j n a hdr hj hn
    cases n with
    | zero => simp at hn
    | succ n =>
      obtain ⟨h1, h2, h3⟩ := dr_cons hdr
      obtain ⟨e1, e2, e3⟩ := hL.2 j e h2
      obtain ⟨b1, b2, b3⟩ := hb e (List.mem_of_getElem? h2)
      simp only [List.length_cons] at hn
      have hin := inN (r := j) (N := 200) (by omega) (by omega)
      have hcl : (nI j).toNatClampNeg = j := nI_clamp (by omega)
      have q1 : nI e.2.1 = 0 ↔ e.2.1 = 0 := nI_eq (b := 0) (by omega) (by omega)
      have q2 : nI e.2.2 = nI r ↔ e.2.2 = r := nI_eq (by omega) (by omega)
      rw [gM_delete_29, hL.1, if_neg (nI_ge h1 (by omega))]
      simp only [if_neg hin]
      simp only [hcl, e2, e3, q1, q2, nI_1, Int32.add_zero]
      rw [List.countP_cons]
      by_cases c1 : e.2.1 = 0
      · rw [if_pos c1]
        by_cases c2 : e.2.2 = r
        · rw [if_pos c2]
          obtain ⟨n', p1, p2, p3⟩ := ih (j + 1) n (a + 1) h3 (by omega) (by omega)
          refine ⟨n', p1, by rw [List.length_cons]; omega, ?_⟩
          rw [p3, if_pos (by simp [isHo, c1, c2]), show a + 1 + l.countP (isHo r) = a + (l.countP (isHo r) + 1) by omega]
        · rw [if_neg c2]
          obtain ⟨n', p1, p2, p3⟩ := ih (j + 1) n a h3 (by omega) (by omega)
          refine ⟨n', p1, by rw [List.length_cons]; omega, ?_⟩
          rw [p3, if_neg (by simp [isHo, c2]), Nat.add_zero]
      · rw [if_neg c1]
        obtain ⟨n', p1, p2, p3⟩ := ih (j + 1) n a h3 (by omega) (by omega)
        refine ⟨n', p1, by rw [List.length_cons]; omega, ?_⟩
        rw [p3, if_neg (by simp [isHo, c1]), Nat.add_zero]
theorem cHo_len {r : Nat} : ∀ (m k : Nat), cHo lv ho r m k = ((List.range' k m).filter (fun j => lv j && ho j == r)).length := by
  intro m
  induction m with
  | zero => intro k; rfl
  | succ m ih =>
    intro k
    rw [List.range'_succ, List.filter_cons, cHo_succ, ih]
    by_cases c : (lv k && ho k == r) = true
    · rw [if_pos c, if_pos c, List.length_cons]; omega
    · rw [if_neg c, if_neg c]; omega
/-- both counts are one -/
theorem cnt_same {r : Nat} (hr1 : 1 ≤ r) (hL : IL R lv L) (hH : IH lv ho L) (hlv : ∀ j, lv j = true → 1 ≤ j ∧ j ≤ R) : cHo lv ho r R 1 = L.countP (isHo r) := by
  rw [cHo_len, List.countP_eq_length_filter]
  have hmem : ∀ e, e ∈ L.filter (isHo r) ↔ e ∈ L ∧ e.2.1 = 0 ∧ e.2.2 = r := by
    intro e
    rw [List.mem_filter]
    simp [isHo]
  have key : ((L.filter (isHo r)).map (fun e => e.1)).Nodup := by
    have hn : (L.filter (isHo r)).Nodup := hL.2.1.filter _
    have hinj : ∀ x ∈ L.filter (isHo r), ∀ y ∈ L.filter (isHo r), x.1 = y.1 → x = y := by
      intro x hx y hy q
      obtain ⟨x1, x2, x3⟩ := x
      obtain ⟨y1, y2, y3⟩ := y
      obtain ⟨-, q1, q2⟩ := (hmem _).mp hx
      obtain ⟨-, q3, q4⟩ := (hmem _).mp hy
      dsimp only at q q1 q2 q3 q4
      rw [q, q1, q2, q3, q4]
    revert hn hinj
    generalize L.filter (isHo r) = F
    intro hn hinj
    induction F with
    | nil => exact List.nodup_nil
    | cons x F ih =>
      rw [List.map_cons]
      obtain ⟨n1, n2⟩ := List.nodup_cons.mp hn
      refine List.nodup_cons.mpr ⟨fun q => ?_, ih n2 (fun a ha b hb => hinj a (List.mem_cons_of_mem _ ha) b (List.mem_cons_of_mem _ hb))⟩
      obtain ⟨y, hy, e⟩ := List.mem_map.mp q
      have := hinj x List.mem_cons_self y (List.mem_cons_of_mem _ hy) e.symm
      exact n1 (this ▸ hy)
  have hT : ∀ j, j ∈ (List.range' 1 R).filter (fun j => lv j && ho j == r) ↔ j ∈ (L.filter (isHo r)).map (fun e => e.1) := by
    intro j
    rw [List.mem_filter, List.mem_map, List.mem_range'_1]
    simp only [Bool.and_eq_true, beq_iff_eq]
    constructor
    · rintro ⟨-, q1, q2⟩
      have := hH.2.1 j q1 (by omega)
      exact ⟨(j, 0, ho j), (hmem _).mpr ⟨this, rfl, q2⟩, rfl⟩
    · rintro ⟨e, he, rfl⟩
      obtain ⟨q1, q2, q3⟩ := (hmem _).mp he
      have h1 := (hL.1 e q1).1
      have h2 := hlv _ h1
      obtain ⟨x, y, z⟩ := e
      dsimp only at q2 q3 h1 h2 ⊢
      subst q2
      exact ⟨by omega, h1, by rw [hH.1 x z q1]; exact q3⟩
  have h1 := nd_le (l := (List.range' 1 R).filter (fun j => lv j && ho j == r)) ((List.nodup_range' (s := 1) (n := R) 1 (by omega)).filter _) (fun x hx => (hT x).mp hx)
  have h2 := nd_le key (fun x hx => (hT x).mpr hx)
  rw [List.length_map] at h1 h2
  omega
end DE
