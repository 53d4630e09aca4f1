/-! delete, both sides -/
section SD
variable {σ : XSt} {τ : MSt} {R : Nat} {lv : Nat → Bool} {hs : Nat → Int32} {ho hh cc : Nat → Nat} {cm : Nat → Int32} {L : List Lk} {g : List Nat} {mo : Int32} {K : Nat}
theorem Chn_pre {r : Nat} : ∀ {c : List Nat} {x : Nat}, Chn ho x c → r ∈ c → ¬ x = r → ∃ y ∈ c, ho y = r := by
  intro c
  induction c with
  | nil => intro x _ h; simp at h
  | cons z c ih =>
    intro x hc hr hx
    obtain ⟨rfl, q2, q3⟩ := hc
    rcases List.mem_cons.mp hr with q | q
    · exact absurd q.symm hx
    · by_cases c1 : ho x = r
      · exact ⟨x, List.mem_cons_self, c1⟩
      · obtain ⟨y, h1, h2⟩ := ih q3 q c1
        exact ⟨y, List.mem_cons_of_mem _ h1, h2⟩
theorem IL_del {r : Nat} (hL : IL R lv L) : IL R (up lv r false) (L.filter (fun e => !(e.1 == r))) := by
  obtain ⟨h1, h2, h3, h4⟩ := hL
  refine ⟨fun e he => ?_, h2.filter _, Nat.le_trans (List.length_filter_le _ _) h3, fun f d => Nat.le_trans ?_ (h4 f d)⟩
  · obtain ⟨q1, q2⟩ := List.mem_filter.mp he
    have hne : e.1 ≠ r := by simpa using q2
    rw [up_n hne]
    exact h1 e q1
  · unfold cntF
    exact List.filter_sublist.countP_le
theorem IH_del {r : Nat} (hH : IH lv ho L) (hlv : ∀ j, lv j = true → 1 ≤ j ∧ j ≤ R) (hr1 : 1 ≤ r) (h0 : L.countP (isHo r) = 0) : IH (up lv r false) ho (L.filter (fun e => !(e.1 == r))) := by
  have hno : ∀ y, lv y = true → ¬ ho y = r := by
    intro y hy q
    have hm := hH.2.1 y hy (by omega)
    have : 0 < L.countP (isHo r) := List.countP_pos_iff.mpr ⟨_, hm, by simp [isHo, q]⟩
    omega
  have hup : ∀ x, up lv r false x = true → x ≠ r ∧ lv x = true := by
    intro x hx
    by_cases c : x = r
    · subst c; rw [up_s] at hx; cases hx
    · rw [up_n c] at hx; exact ⟨c, hx⟩
  refine ⟨fun x t hx => hH.1 x t (List.mem_filter.mp hx).1, fun x hx h => ?_, fun x hx => ?_⟩
  · obtain ⟨q1, q2⟩ := hup x hx
    refine List.mem_filter.mpr ⟨hH.2.1 x q2 h, ?_⟩
    simpa using q1
  · obtain ⟨q1, q2⟩ := hup x hx
    obtain ⟨c, hc, hl⟩ := hH.2.2 x q2
    refine ⟨c, hc, fun y hy => ?_⟩
    by_cases c1 : y = r
    · subst c1
      obtain ⟨z, z1, z2⟩ := Chn_pre hc hy q1
      exact absurd z2 (hno z (hl z z1))
    · rw [up_n c1]
      exact hl y hy
theorem xDel_0 {p : Int32} {σ1 : XSt} (h : fX_isLive K p (x_pmoment σ (x_moment σ + 1)) = some (0, σ1)) : fX_delete K p σ = some (0, σ1) := by
  unfold fX_delete
  rw [h, Option.bind_some, if_pos rfl]
theorem xDel_n {p n : Int32} {σ1 : XSt} (h : fX_isLive K p (x_pmoment σ (x_moment σ + 1)) = some (1, σ1)) (h2 : fX_countHostedBy K p σ1 = some (n, σ1)) (hn : ¬ n ≤ 0) : fX_delete K p σ = some (-n, σ1) := by
  unfold fX_delete
  rw [h, Option.bind_some, if_neg (show ¬ (1 : Int32) = 0 by decide)]
  dsimp only
  rw [h2, Option.bind_some, if_neg hn]
theorem xDel_1 {r : Nat} {σ1 σ2 : XSt} (hr : r ≤ 60) (h : fX_isLive K (nI r) (x_pmoment σ (x_moment σ + 1)) = some (1, σ1)) (h2 : fX_countHostedBy K (nI r) σ1 = some (0, σ1)) (h3 : fX_removeLinksOf K (nI r) (x_plive σ1 (upd (x_live σ1) r 0)) = some (0, σ2)) : fX_delete K (nI r) σ = some (1, σ2) := by
  unfold fX_delete
  rw [h, Option.bind_some, if_neg (show ¬ (1 : Int32) = 0 by decide)]
  dsimp only
  rw [h2, Option.bind_some, if_pos (show (0 : Int32) ≤ 0 by decide), if_neg (inN (by omega) (by omega)), nI_clamp (by omega), nar0]
  dsimp only
  rw [h3, Option.bind_some]
theorem mDel_0 {p : Int32} {τ1 : MSt} (h : fM_isLive K p (mT1 τ) = some (0, τ1)) : fM_delete K p τ = some (0, τ1) := by
  unfold fM_delete
  show ((fM_isLive K p (mT1 τ)).bind _) = _
  rw [h, Option.bind_some, if_pos rfl]
theorem mDel_g {p : Int32} {τ1 : MSt} (h : fM_isLive K p (mT1 τ) = some (1, τ1)) : fM_delete K p τ = gM_delete_29 K K p 0 0 τ1 := by
  unfold fM_delete
  show ((fM_isLive K p (mT1 τ)).bind _) = _
  rw [h, Option.bind_some, if_neg (show ¬ (1 : Int32) = 0 by decide)]
theorem del_rel {r : Nat} (h : LkC K (x_pmoment σ (x_moment σ + 1)) (mT1 τ) R lv hs ho hh cc cm L g mo) (hr : lv r = true) : Sim (fX_delete K (nI r) σ) (fM_delete K (nI r) τ) := by
  obtain ⟨hK, hx, hm, hL, hH, hN⟩ := id h
  have h60 := hN.1
  have hlv := hN.2.1
  have hr1 := hlv r hr
  have h200 : L.length ≤ 200 := hL.2.2.1
  have hb := hL.b h60 hlv
  have hX1 := xLive (K := K) hx h60 (nI r)
  have hM1 := mLive (K := K) hm h60 (nI r)
  rw [liveI_r hr1.1 hr1.2 h60, hr, b2i_t] at hX1 hM1
  have hX2 : fX_countHostedBy K (nI r) (x_pmoment σ (x_moment σ + 1)) = some (nI (L.countP (isHo r)), x_pmoment σ (x_moment σ + 1)) := by
    have := xCount (K := K) (r := r) (by omega) hx h60 hN.2.2.2.2.2.1 R 1 K 0 (by omega) (by omega) (by omega)
    rw [Nat.zero_add, cnt_same hr1.1 hL hH hlv] at this
    exact this
  obtain ⟨n', p1, p2, p3⟩ := mCntH (K := K) (r := r) (by omega) hm hb h200 L 0 K 0 rfl (by omega) (by omega)
  rw [Nat.zero_add] at p3
  have hM2 : fM_delete K (nI r) τ = gM_delete_29 K n' (nI r) (nI (L.countP (isHo r))) (nI L.length) (mT1 τ) := (mDel_g hM1).trans p3
  obtain ⟨n'', rfl⟩ : ∃ k, n' = k + 1 := ⟨n' - 1, by omega⟩
  rw [gM_delete_29, hm.2.2.2.2.2.2.1.1, if_pos (nI_le (Nat.le_refl _) (by omega))] at hM2
  have hcl : L.countP (isHo r) ≤ 200 := Nat.le_trans List.countP_le_length h200
  by_cases c : L.countP (isHo r) = 0
  · rw [c] at hX2 hM2
    rw [if_pos (show nI 0 ≤ 0 by decide), mHostOf hK hm hL hH h60 hlv hr, Option.bind_some] at hM2
    have hin := inN (r := r) (N := 61) (by omega) (by omega)
    rw [if_neg hin, if_neg hin, nI_clamp (by omega), nar0] at hM2
    dsimp only at hM2
    have hx3 : rX (x_plive (x_pmoment σ (x_moment σ + 1)) (upd (x_live (x_pmoment σ (x_moment σ + 1))) r 0)) R (up lv r false) hs ho (bC false mo cc cm r) (bM false mo cc cm r) (L ++ []) g mo := by
      obtain ⟨a1, a2, a3, a4, a5, a6, a7, a8, a9⟩ := hx
      rw [a2, show (0 : Int32) = b2i false from rfl, upd_b, List.append_nil]
      exact ⟨a1, rfl, a3, a4, a5, a6, a7, a8, a9⟩
    have hm3 : rM (m_phadHost (m_plive (mT1 τ) (upd (m_live (mT1 τ)) r 0)) (upd (m_hadHost (mT1 τ)) r (nI (ho r)))) R (up lv r false) hs (up hh r (ho r)) (bC false mo cc cm r) (bM false mo cc cm r) ([] ++ L) g mo := by
      obtain ⟨a1, a2, a3, a4, a5, a6, a7, a8, a9⟩ := hm
      rw [a2, a4, show (0 : Int32) = b2i false from rfl, upd_b, upd_nI, List.nil_append]
      exact ⟨a1, rfl, a3, rfl, a5, a6, a7, a8, a9⟩
    obtain ⟨σ2, y1, y2⟩ := xDelL (K := K) (r := r) (by omega) hN.2.2.1 L.length K _ false L [] hx3 (fun e he => (hb e (by rw [List.append_nil] at he; exact he)).1) (by rw [List.append_nil]; exact h200) rfl (by omega)
    obtain ⟨τ2, z1, z2⟩ := mDelL (K := K) (r := r) (x2 := nI 0) (kk := fun (y0 y1 y2 : Int32) (t : MSt) => gM_delete_29 K n'' y0 y1 y2 t) hK (by omega) hN.2.2.1 L [] K _ false hm3 (fun e he => (hb e he).1) h200 (by omega)
    have hX3 : fX_removeLinksOf K (nI r) (x_plive (x_pmoment σ (x_moment σ + 1)) (upd (x_live (x_pmoment σ (x_moment σ + 1))) r 0)) = some (0, σ2) := by
      unfold fX_removeLinksOf
      have e9 : x_links (x_plive (x_pmoment σ (x_moment σ + 1)) (upd (x_live (x_pmoment σ (x_moment σ + 1))) r 0)) = nI L.length := hx.2.2.2.2.2.2.1.1
      rw [e9, ixM_len]
      exact y1
    rw [List.append_nil] at y2
    refine ⟨1, σ2, τ2, xDel_1 (by omega) hX1 hX2 hX3, hM2.trans z1, R, up lv r false, hs, ho, up hh r (ho r), _, _, _, g, mo, y2, z2, IL_del hL, IH_del hH hlv hr1.1 c, ?_⟩
    obtain ⟨n1, n2, n3, n4, n5, n6, n7, n8⟩ := hN
    refine ⟨n1, fun j hj => ?_, bC_le n3, n4, n5, n6, fun j j1 j2 j3 => ?_, n8⟩
    · by_cases c1 : j = r
      · subst c1; rw [up_s] at hj; cases hj
      · rw [up_n c1] at hj; exact n2 j hj
    · by_cases c1 : j = r
      · subst c1; rw [up_s]
      · rw [up_n c1] at j3 ⊢
        exact n7 j j1 j2 j3
  · have hp : ¬ nI (L.countP (isHo r)) ≤ 0 := nI_nle (by omega) (by omega)
    rw [if_neg hp] at hM2
    exact ⟨_, _, _, xDel_n hX1 hX2 hp, hM2, h.rel⟩
theorem sim_delete (hK : 300 ≤ K) (hR : Rel σ τ) (p : Int32) : Sim (fX_delete K p σ) (fM_delete K p τ) := by
  obtain ⟨R, lv, hs, ho, hh, cc, cm, L, g, mo, hx, hm, hL, hH, hN⟩ := hR
  have hx' : rX (x_pmoment σ (x_moment σ + 1)) R lv hs ho cc cm L g (mo + 1) := by
    rw [hx.2.2.2.2.2.2.2.2]; exact rX_mom hx (mo + 1)
  have hm' : rM (mT1 τ) R lv hs hh cc cm L g (mo + 1) := by
    unfold mT1
    rw [hm.2.2.2.2.2.2.2.2]; exact rM_mom hm 0 (mo + 1)
  have hc : LkC K (x_pmoment σ (x_moment σ + 1)) (mT1 τ) R lv hs ho hh cc cm L g (mo + 1) := ⟨hK, hx', hm', hL, hH, hN⟩
  cases c : liveI R lv p
  · have h1 := xLive (K := K) hx' hN.1 p
    have h2 := mLive (K := K) hm' hN.1 p
    rw [c, b2i_f] at h1 h2
    exact ⟨0, _, _, xDel_0 h1, mDel_0 h2, hc.rel⟩
  · obtain ⟨r, r1, r2, rfl, hr⟩ := liveI_t hN.1 c
    exact del_rel hc hr
end SD
