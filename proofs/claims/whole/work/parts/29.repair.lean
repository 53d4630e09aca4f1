/-! repair -/
theorem spl {α : Type} {L : List α} {k : Nat} {e : α} (h : L[k]? = some e) : ∃ a b, L = a ++ e :: b ∧ a.length = k ∧ L.eraseIdx k = a ++ b ∧ ∀ x, L.set k x = a ++ x :: b := by
  have hk := (List.getElem?_eq_some_iff.mp h).1
  have he := (List.getElem?_eq_some_iff.mp h).2
  refine ⟨L.take k, L.drop (k + 1), ?_, by rw [List.length_take]; omega, List.eraseIdx_eq_take_drop_succ .., fun x => ?_⟩
  · rw [← he, ← List.drop_eq_getElem_cons hk, List.take_append_drop]
  · rw [List.set_eq_take_append_cons_drop, if_pos hk]
section RP
variable {σ : XSt} {τ : MSt} {R : Nat} {lv : Nat → Bool} {hs : Nat → Int32} {ho hh cc : Nat → Nat} {cm : Nat → Int32} {L : List Lk} {g : List Nat} {mo : Int32} {K : Nat}
theorem host_live {f : Nat} (hH : IH lv ho L) (hf : lv f = true) (hf1 : 1 ≤ f) (h0 : ¬ ho f = 0) : lv (ho f) = true := by
  obtain ⟨c, hc, hl⟩ := hH.2.2 f hf
  cases c with
  | nil =>
    have : f = 0 := hc
    omega
  | cons x c =>
    obtain ⟨rfl, q2, q3⟩ := hc
    cases c with
    | nil => exact absurd q3 h0
    | cons y c =>
      obtain ⟨q4, -⟩ := q3
      rw [q4]
      exact hl y (List.mem_cons_of_mem _ List.mem_cons_self)
theorem xRep_g {i : Int32} {k f d t h : Nat} {σ2 : XSt} (hk : k < 200) (ht : t ≤ 60) (h1 : fX_findBroken K i (x_pmoment σ (x_moment σ + 1)) = some (nI k, x_pmoment σ (x_moment σ + 1))) (h2 : x_linkFrom (x_pmoment σ (x_moment σ + 1)) k = nI f) (h3 : fX_noteChange K (nI f) (x_pmoment σ (x_moment σ + 1)) = some (0, σ2)) (h4 : x_linkFrom σ2 k = nI f) (h5 : x_linkField σ2 k = nI d) (h6 : x_linkTo σ2 k = nI t) (h7 : x_hosts σ2 t = nI h) : fX_repair K i σ = ((fX_hasRoomFor K (nI f) (nI d) (nI h) (nI k) σ2).bind fun q_9 => (if q_9.1 = 0 then ((fX_removeLink K (nI k) q_9.2).bind fun q_11 => some ((0 : Int32), q_11.2)) else some ((1 : Int32), (x_plinkTo q_9.2 (upd (x_linkTo q_9.2) k (nI h)))))) := by
  have hin := inN (r := k) (N := 200) hk (by omega)
  have hcl : (nI k).toNatClampNeg = k := nI_clamp (by omega)
  unfold fX_repair
  rw [h1, Option.bind_some]
  dsimp only
  rw [if_neg (nI_m1 (by omega))]
  simp only [if_neg hin]
  rw [hcl, h2, h3, Option.bind_some]
  dsimp only
  rw [h4, h5, h6, if_neg (inN (by omega) (by omega)), nI_clamp (n := t) (by omega), h7]
theorem mRep_g {i : Int32} {k f d t h : Nat} {τ2 : MSt} (hk : k < 200) (ht : t ≤ 60) (h1 : fM_brokenAt K i (mT1 τ) = some (nI k, mT1 τ)) (h2 : m_from (mT1 τ) k = nI f) (h3 : fM_changed K (nI f) (mT1 τ) = some (0, τ2)) (h4 : m_from τ2 k = nI f) (h5 : m_field τ2 k = nI d) (h6 : m_to τ2 k = nI t) (h7 : m_hadHost τ2 t = nI h) {b : Int32} (h8 : fM_isLive K (nI h) τ2 = some (b, τ2)) : fM_repair K i τ = (if b = 0 then ((fM_drop K (nI k) τ2).bind fun q_9 => some ((0 : Int32), q_9.2)) else (if nI h = nI f then ((fM_drop K (nI k) τ2).bind fun q_12 => some ((0 : Int32), q_12.2)) else ((fM_find K (nI f) (nI d) (nI h) τ2).bind fun q_15 => (if q_15.1 = (-1 : Int32) then some ((1 : Int32), (m_pto q_15.2 (upd (m_to q_15.2) k (nI h)))) else ((fM_drop K (nI k) q_15.2).bind fun q_17 => some ((0 : Int32), q_17.2)))))) := by
  have hin := inN (r := k) (N := 200) hk (by omega)
  have hcl : (nI k).toNatClampNeg = k := nI_clamp (by omega)
  unfold fM_repair
  show ((fM_brokenAt K i (mT1 τ)).bind _) = _
  rw [h1, Option.bind_some]
  dsimp only
  rw [if_neg (nI_m1 (by omega))]
  simp only [if_neg hin]
  rw [hcl, h2, h3, Option.bind_some]
  dsimp only
  rw [h6, if_neg (inN (by omega) (by omega)), nI_clamp (n := t) (by omega), h7, h8, Option.bind_some]
  dsimp only
  rw [h4, h5]
theorem xRep_n {i : Int32} {σ1 : XSt} (h1 : fX_findBroken K i (x_pmoment σ (x_moment σ + 1)) = some (-1, σ1)) : fX_repair K i σ = some (-1, σ1) := by
  unfold fX_repair
  rw [h1, Option.bind_some, if_pos rfl]
theorem mRep_n {i : Int32} {τ1 : MSt} (h1 : fM_brokenAt K i (mT1 τ) = some (-1, τ1)) : fM_repair K i τ = some (-1, τ1) := by
  unfold fM_repair
  show ((fM_brokenAt K i (mT1 τ)).bind _) = _
  rw [h1, Option.bind_some, if_pos rfl]
theorem cntF_mid (a b : List Lk) (e : Lk) (f d : Nat) : cntF (a ++ e :: b) f d = cntF (a ++ b) f d + (if e.1 = f ∧ e.2.1 = d then 1 else 0) := by
  unfold cntF
  rw [List.countP_append, List.countP_append, List.countP_cons]
  by_cases c1 : e.1 = f <;> by_cases c2 : e.2.1 = d <;> simp [c1, c2] <;> omega
theorem nd_mid {α : Type} {a b : List α} {e : α} : (a ++ e :: b).Nodup ↔ (a ++ b).Nodup ∧ ¬ e ∈ a ++ b := by
  rw [List.nodup_append, List.nodup_append, List.nodup_cons, List.mem_append]
  constructor
  · rintro ⟨h1, ⟨h2, h3⟩, h4⟩
    refine ⟨⟨h1, h3, fun x hx y hy => h4 x hx y (List.mem_cons_of_mem _ hy)⟩, ?_⟩
    rintro (q | q)
    · exact h4 e q e List.mem_cons_self rfl
    · exact h2 q
  · rintro ⟨⟨h1, h3, h4⟩, h5⟩
    refine ⟨h1, ⟨fun q => h5 (Or.inr q), h3⟩, fun x hx y hy => ?_⟩
    rcases List.mem_cons.mp hy with q | q
    · subst q
      intro e2
      exact h5 (Or.inl (e2 ▸ hx))
    · exact h4 x hx y q
theorem mem_mid {α : Type} {a b : List α} {e x : α} : x ∈ a ++ e :: b ↔ x = e ∨ x ∈ a ++ b := by
  rw [List.mem_append, List.mem_append, List.mem_cons]
  constructor
  · rintro (h | h | h)
    · exact Or.inr (Or.inl h)
    · exact Or.inl h
    · exact Or.inr (Or.inr h)
  · rintro (h | h | h)
    · exact Or.inr (Or.inl h)
    · exact Or.inl h
    · exact Or.inr (Or.inr h)
/-- a link less keeps what is kept -/
theorem IL_mid {a b : List Lk} {e : Lk} (hL : IL R lv (a ++ e :: b)) : IL R lv (a ++ b) := by
  obtain ⟨h1, h2, h3, h4⟩ := hL
  refine ⟨fun x hx => h1 x (mem_mid.mpr (Or.inr hx)), (nd_mid.mp h2).1, by rw [List.length_append] at h3 ⊢; rw [List.length_cons] at h3; omega, fun f d => ?_⟩
  have := h4 f d
  rw [cntF_mid] at this
  omega
theorem IH_mid {a b : List Lk} {f d t : Nat} (hd : ¬ d = 0) (hH : IH lv ho (a ++ (f, d, t) :: b)) : IH lv ho (a ++ b) := by
  refine ⟨fun r x hx => hH.1 r x (mem_mid.mpr (Or.inr hx)), fun r hr h0 => ?_, hH.2.2⟩
  rcases mem_mid.mp (hH.2.1 r hr h0) with q | q
  · cases q; exact absurd rfl hd
  · exact q
theorem IL_put {a b : List Lk} {f d t h : Nat} (hL : IL R lv (a ++ (f, d, t) :: b)) (hd4 : d < 4) (h1 : 1 ≤ h) (h2 : h ≤ R) (hn : ¬ (f, d, h) ∈ a ++ b) : IL R lv (a ++ (f, d, h) :: b) := by
  have hm := IL_mid hL
  refine ⟨fun x hx => ?_, nd_mid.mpr ⟨hm.2.1, hn⟩, ?_, fun f' d' => ?_⟩
  · rcases mem_mid.mp hx with q | q
    · subst q
      obtain ⟨q1, q2, q3, q4⟩ := hL.1 (f, d, t) (mem_mid.mpr (Or.inl rfl))
      exact ⟨q1, q2, fun _ => ⟨h1, h2⟩, fun q => absurd q (by show ¬ 4 ≤ d; omega)⟩
    · exact hm.1 x q
  · have := hL.2.2.1
    rw [List.length_append, List.length_cons] at this ⊢
    exact this
  · have := hL.2.2.2 f' d'
    rw [cntF_mid] at this ⊢
    exact this
theorem IH_put {a b : List Lk} {f d t h : Nat} (hd : ¬ d = 0) (hH : IH lv ho (a ++ (f, d, t) :: b)) : IH lv ho (a ++ (f, d, h) :: b) := by
  have hm := IH_mid hd hH
  refine ⟨fun r x hx => ?_, fun r hr h0 => mem_mid.mpr (Or.inr (hm.2.1 r hr h0)), hH.2.2⟩
  rcases mem_mid.mp hx with q | q
  · cases q; exact absurd rfl hd
  · exact hm.1 r x q
theorem rep_rel {i : Int32} {k f d t : Nat} (h : LkC K (x_pmoment σ (x_moment σ + 1)) (mT1 τ) R lv hs ho hh cc cm L g mo) (he : L[k]? = some (f, d, t)) (hbr : isBr lv (f, d, t) = true) (h1 : fX_findBroken K i (x_pmoment σ (x_moment σ + 1)) = some (nI k, x_pmoment σ (x_moment σ + 1))) (h2 : fM_brokenAt K i (mT1 τ) = some (nI k, mT1 τ)) : Sim (fX_repair K i σ) (fM_repair K i τ) := by
  obtain ⟨hK, hx, hm, hL, hH, hN⟩ := h
  have h60 := hN.1
  have hlv := hN.2.1
  have hk : k < L.length := (List.getElem?_eq_some_iff.mp he).1
  have h200 : L.length ≤ 200 := hL.2.2.1
  obtain ⟨b1, b2, b3, b4⟩ := hL.1 _ (List.mem_of_getElem? he)
  dsimp only at b1 b2 b3 b4
  have hd4 : d < 4 := by
    simp [isBr] at hbr
    exact hbr.1
  have hlt : lv t = false := by
    simp [isBr] at hbr
    exact hbr.2
  obtain ⟨t1, t2⟩ := b3 hd4
  have hf1 := hlv f b1
  have hccf := hN.2.2.1 f
  have hht : hh t = ho t := hN.2.2.2.2.2.2.1 t t1 t2 hlt
  have hhR : ho t ≤ R := hN.2.2.2.2.2.1 t
  have hd0 : ¬ d = 0 := by
    intro q
    subst q
    have e1 := hH.1 f t (List.mem_of_getElem? he)
    have e2 := host_live hH b1 hf1.1 (by omega)
    rw [e1, hlt] at e2
    cases e2
  obtain ⟨σ2, w1, w2⟩ := xNote (K := K) (r := f) (by omega) hccf hx
  obtain ⟨τ2, v1, v2⟩ := mNote (K := K) (r := f) (by omega) hccf hm
  obtain ⟨x1, -, -⟩ := hx.2.2.2.2.2.2.1.2 k _ he
  obtain ⟨x4, x5, x6⟩ := w2.2.2.2.2.2.2.1.2 k _ he
  obtain ⟨m1, -, -⟩ := hm.2.2.2.2.2.2.1.2 k _ he
  obtain ⟨m4, m5, m6⟩ := v2.2.2.2.2.2.2.1.2 k _ he
  have x7 : x_hosts σ2 t = nI (ho t) := by rw [w2.2.2.2.1]
  have m7 : m_hadHost τ2 t = nI (ho t) := by rw [v2.2.2.2.1, ← hht]
  have eX := xRep_g (k := k) (t := t) (by omega) (by omega) h1 x1 w1 x4 x5 x6 x7
  have eM := mRep_g (k := k) (t := t) (by omega) (by omega) h2 m1 v1 m4 m5 m6 m7 (mLive v2 h60 (nI (ho t)))
  have hX := xHas (K := K) (w := nI k) (t := ho t) hK w2 hL h60 hlv b1 b2 (by omega) (Classical.propDecidable _)
  have her : erS (nI k) 0 L = L.eraseIdx k := by
    have := erS_k L 0 k (by omega) (by omega)
    rw [Nat.zero_add] at this
    exact this
  rw [her] at hX
  obtain ⟨a, b, eL, ea, ee, es⟩ := spl he
  obtain ⟨σ3, y1, y2⟩ := xRemove (K := K) hk h200 w2
  obtain ⟨τ3, z1, z2⟩ := mDrop (K := K) hK hk h200 v2
  have hN' : IN R lv ho hh (ntC mo cc cm f) g := IN_note hN
  -- taken away
  have hgone : Rel σ3 τ3 := by
    refine ⟨R, lv, hs, ho, hh, ntC mo cc cm f, ntM mo cc cm f, L.eraseIdx k, g, mo, y2, z2, ?_, ?_, hN'⟩
    · rw [ee]; rw [eL] at hL; exact IL_mid hL
    · rw [ee]; rw [eL] at hH; exact IH_mid hd0 hH
  have tl : tgtI R lv (nI f) (nI d) (nI (ho t)) = (liveI R lv (nI (ho t)) && !decide (nI (ho t) = nI f)) := by
    unfold tgtI
    rw [if_pos (show nI d < 4 from nI_lt (b := 4) hd4 (by omega))]
  have goneX : b2i (tgtI R lv (nI f) (nI d) (nI (ho t)) && @decide (roomP (L.eraseIdx k) f d (ho t)) (Classical.propDecidable _)) = 0 → fX_repair K i σ = some (0, σ3) := by
    intro q
    rw [eX, hX, q, Option.bind_some, if_pos rfl]
    dsimp only
    rw [y1, Option.bind_some]
  cases hl : liveI R lv (nI (ho t))
  · refine ⟨0, σ3, τ3, goneX (by rw [tl, hl, Bool.false_and, Bool.false_and]; rfl), ?_, hgone⟩
    rw [eM, hl, if_pos bF, z1, Option.bind_some]
  · rw [hl, if_neg bT] at eM
    by_cases c1 : ho t = f
    · refine ⟨0, σ3, τ3, goneX (by rw [tl, hl, c1, decide_eq_true rfl]; rfl), ?_, hgone⟩
      rw [eM, if_pos (by rw [c1]), z1, Option.bind_some]
    · have n1 : ¬ nI (ho t) = nI f := fun q => c1 (nI_inj (by omega) (by omega) q)
      obtain ⟨h', hh1, hh2, hh3, hh4⟩ := liveI_t h60 hl
      have hh5 : ho t = h' := nI_inj (by omega) (by omega) hh3
      rw [← hh5] at hh1 hh2 hh4
      have tg : tgtI R lv (nI f) (nI d) (nI (ho t)) = true := by rw [tl, hl, decide_eq_false n1]; rfl
      have e2 : fM_find K (nI f) (nI d) (nI (ho t)) τ2 = some (o2i (fdS (f, d, ho t) 0 L), τ2) := mFind (by omega) (by omega) (by omega) v2 (hL.b h60 hlv) h200 L 0 K rfl (by omega) (by omega)
      rw [if_neg n1, e2, Option.bind_some] at eM
      dsimp only at eM
      have hne : ¬ ((f, d, ho t) : Lk) = (f, d, t) := by
        intro q
        have : ho t = t := congrArg (fun v => v.2.2) q
        rw [this, hlt] at hh4
        cases hh4
      have hmem : (f, d, ho t) ∈ L ↔ (f, d, ho t) ∈ a ++ b := by
        rw [eL, mem_mid]
        constructor
        · rintro (q | q)
          · exact absurd q hne
          · exact q
        · exact Or.inr
      by_cases c2 : (f, d, ho t) ∈ L
      · have hno : ¬ roomP (L.eraseIdx k) f d (ho t) := by
          rw [ee]
          intro q
          exact q.1 (hmem.mp c2)
        refine ⟨0, σ3, τ3, goneX (by rw [tg, @decide_eq_false _ (Classical.propDecidable _) hno]; rfl), ?_, hgone⟩
        cases hq : fdS (f, d, ho t) 0 L with
        | none => exact absurd c2 (fdS_none.mp hq)
        | some j =>
          obtain ⟨-, q2⟩ := fdS_some hq
          have hj := (List.getElem?_eq_some_iff.mp q2).1
          rw [eM, hq, show o2i (some j) = nI j from rfl, if_neg (nI_m1 (by omega)), z1, Option.bind_some]
      · have hyes : roomP (L.eraseIdx k) f d (ho t) := by
          rw [ee]
          refine ⟨fun q => c2 (hmem.mpr q), ?_, ?_⟩
          · have := hL.2.2.2 f d
            rw [eL, cntF_mid, if_pos ⟨rfl, rfl⟩] at this
            omega
          · have : L.length = (a ++ b).length + 1 := by
              rw [eL, List.length_append, List.length_append, List.length_cons]
              omega
            omega
        rw [fdS_none.mpr c2, show o2i none = -1 from rfl, if_pos rfl] at eM
        rw [tg, @decide_eq_true _ (Classical.propDecidable _) hyes, Bool.and_true, b2i_t] at hX
        rw [hX, Option.bind_some, if_neg (show ¬ (1 : Int32) = 0 by decide)] at eX
        dsimp only at eX
        have hes := es (f, d, ho t)
        refine ⟨1, _, _, eX, eM, R, lv, hs, ho, hh, ntC mo cc cm f, ntM mo cc cm f, L.set k (f, d, ho t), g, mo, ?_, ?_, ?_, ?_, hN'⟩
        · obtain ⟨a1, a2, a3, a4, a5, a6, a7, a8, a9⟩ := w2
          exact ⟨a1, a2, a3, a4, a5, a6, LR_set a7 he, a8, a9⟩
        · obtain ⟨a1, a2, a3, a4, a5, a6, a7, a8, a9⟩ := v2
          exact ⟨a1, a2, a3, a4, a5, a6, LR_set a7 he, a8, a9⟩
        · rw [hes]; rw [eL] at hL; exact IL_put hL hd4 hh1 hh2 (fun q => c2 (hmem.mpr q))
        · rw [hes]; rw [eL] at hH; exact IH_put hd0 hH
theorem sim_repair (hK : 300 ≤ K) (hR : Rel σ τ) (i : Int32) : Sim (fX_repair K i σ) (fM_repair K i τ) := by
  obtain ⟨R, lv, hs, ho, hh, cc, cm, L, g, mo, hx, hm, hL, hH, hN⟩ := hR
  have hx' : rX (x_pmoment σ (x_moment σ + 1)) R lv hs ho cc cm L g (mo + 1) := by
    rw [hx.2.2.2.2.2.2.2.2]; exact rX_mom hx (mo + 1)
  have hm' : rM (mT1 τ) R lv hs hh cc cm L g (mo + 1) := by
    unfold mT1
    rw [hm.2.2.2.2.2.2.2.2]; exact rM_mom hm 0 (mo + 1)
  have hc : LkC K (x_pmoment σ (x_moment σ + 1)) (mT1 τ) R lv hs ho hh cc cm L g (mo + 1) := ⟨hK, hx', hm', hL, hH, hN⟩
  have h1 := xFindB (K := K) (i := i) hK hx' hL hN.1
  have h2 := mBrokenAt (K := K) (i := i) hK hm' hL hN.1
  cases hb : (if i < 0 then none else brS lv i L 0 0) with
  | none =>
    rw [hb] at h1 h2
    exact ⟨-1, _, _, xRep_n h1, mRep_n h2, hc.rel⟩
  | some k =>
    rw [hb] at h1 h2
    have hb : brS lv i L 0 0 = some k := by
      by_cases c : i < 0
      · rw [if_pos c] at hb; cases hb
      · rw [if_neg c] at hb; exact hb
    obtain ⟨e, -, he, hbr⟩ := brS_some hb
    rw [Nat.sub_zero] at he
    obtain ⟨f, d, t⟩ := e
    exact rep_rel hc he hbr h1 h2
end RP
