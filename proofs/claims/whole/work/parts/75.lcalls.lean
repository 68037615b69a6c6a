/-! The calls of axiom, one, top -/
def CLN (σ : am_S) (L : Nat → List pfN) (τ : am_S) : Prop := (∃ f, nf τ f) ∧ cn τ L 500 ∧ nv τ L ∧ fm clS (am_set σ 11 0 0 0) τ
theorem clN {d : Nat} {σ : am_S} {L : Nat → List pfN} (hN : nv σ L) : am_M d 1141954 [am_r 11 0] (am_set σ 11 0 0 0) (fun o τ => o = .inl none ∧ CLN σ L τ) := by
  refine sp_m_cleanF (nv_fm hN (fm_th σ 0) th_n) (fun τ h0 hc hn hf => ⟨rfl, ?_, hc, hn, hf⟩)
  obtain ⟨f0, f, h1, h2, h3, h4, h5, h6⟩ := nu_f hc.1 (by decide)
  exact ⟨f, h0, h3, h6, h5⟩
theorem CLN_f {σ τ : am_S} {L : Nat → List pfN} (h : CLN σ L τ) : fm mrS σ τ := fm_trans (fm_mono (fm_th σ 0) mrS_th) (fm_mono h.2.2.2 mrS_cl)
theorem CLN_0 {σ τ : am_S} {L : Nat → List pfN} (h : CLN σ L τ) : τ.1 11 0 0 = 0 := by rw [fm_at h.2.2.2 (by unfold clS; omega)]; exact set_same ..
theorem mrS_ax (f s : Nat) : ∀ a c, axS f s a c → mrS a c := fun a c h => by
  rcases h with h | h
  · exact mrS_br f a c h
  · exact mrS_it s a c h
theorem ax_keep {τ υ : am_S} {f s : Nat} (hn : nf τ f) (hf : fm (axS f s) τ υ) {t : List pfN} {k : Nat} (h : mn τ (us τ) t k) : mn υ nL t k :=
  mn_fm hf (fun j hj a c h1 h2 => by
    have hne : j ≠ f := fun e => by have := hj.2; rw [e, hn.2.2.2] at this; exact absurd this (by decide)
    unfold nS at h1; unfold axS brS wkS mnS itS at h2; omega) (fun j hj => us_nL hj) h
theorem nv_leaf {σ τ υ : am_S} {L : Nat → List pfN} {f s : Nat} {r n : Int} {l : List Int} (hL : ∀ j, j < 5 → (L j).length ≤ 100) (hC : CLN σ L τ) (hn : nf τ f) (h9 : r ≠ 9) (hw : mnw υ f r n (-1) (-1) 1 0 l) (h1 : υ.1 129 0 s = (f : Int)) (hf : fm (axS f s) τ υ) : nv υ (ups L s (pf_mk r n l [])) := by
  intro j hj
  by_cases e : j = s
  · subst e
    refine ⟨by rw [ups_s]; show 1 ≤ 100; decide, Or.inr ⟨f, h1, ?_⟩⟩
    rw [ups_s]
    refine mn_z hn.2.1 ?_
    have e2 : ((pf_cuts (pf_mk r n l []) : Nat) : Int) = 0 := by rw [cuts_mk, if_neg h9]; rfl
    rw [e2]
    exact ni_new hw
  · refine ⟨by rw [ups_n _ _ e]; exact hL j hj, ?_⟩
    rcases hC.2.1.2 j hj with ⟨q1, q2⟩ | ⟨k, q1, q2⟩
    · exact Or.inl ⟨by rw [ups_n _ _ e]; exact q1, by rw [fm_at hf (by unfold axS brS wkS mnS itS; omega)]; exact q2⟩
    · exact Or.inr ⟨k, by rw [fm_at hf (by unfold axS brS wkS mnS itS; omega)]; exact q1, by rw [ups_n _ _ e]; exact ax_keep hn hf q2⟩
theorem nv_leaf0 {σ τ υ : am_S} {L : Nat → List pfN} {f s : Nat} (hL : ∀ j, j < 5 → (L j).length ≤ 100) (hC : CLN σ L τ) (hn : nf τ f) (h1 : υ.1 129 0 s = τ.1 129 0 s) (hf : fm (axS f s) τ υ) : nv υ L := by
  intro j hj
  refine ⟨hL j hj, ?_⟩
  have e : υ.1 129 0 j = τ.1 129 0 j := by
    by_cases e : j = s
    · rw [e]; exact h1
    · exact fm_at hf (by unfold axS brS wkS mnS itS; omega)
  rcases hC.2.1.2 j hj with ⟨q1, q2⟩ | ⟨k, q1, q2⟩
  · exact Or.inl ⟨q1, by rw [e]; exact q2⟩
  · exact Or.inr ⟨k, by rw [e]; exact q1, ax_keep hn hf q2⟩
theorem sp_m_axiomN {d : Nat} {s k : Int} {T : ftT} {L : Nat → List pfN} {σ : am_S} {Q : am_Q} (hT : mt σ T) (hp : ft_pr T) (ho : ft_ok T) (hN : nv σ L) (he : ¬ ((0 ≤ s ∧ s < 4) ∧ (0 ≤ k ∧ k < 8)) → ro σ L 0 1 Q) (h : 0 ≤ s ∧ s < 4 → 0 ≤ k ∧ k < 8 → ro σ (ups L s.toNat (pf_mk 0 (2 * k) [2 * k, 2 * k + 1] [])) 1 0 Q) : am_M (d + 3) 1223782 [am_r 11 0, am_i s, am_i k] σ Q :=
  sp_m_axiom (C := CLN σ L) hp ho (fun hs => he hs _ (nv_fm hN (fm_th σ 1) th_n) (set_same ..) (fm_mono (fm_th σ 1) mrS_th)) (clN hN) (fun τ hC => ⟨mt_mr hT (CLN_f hC), CLN_0 hC, hC.1⟩) (fun hs hk τ f υ hC hn hw h0 h1 hf => h hs hk υ (nv_leaf (fun j hj => (hN j hj).1) hC hn (by decide) hw h1 hf) h0 (fm_trans (CLN_f hC) (fm_mono hf (mrS_ax f _))))
theorem sp_m_oneN {d : Nat} {s : Int} {T : ftT} {L : Nat → List pfN} {σ : am_S} {Q : am_Q} (hT : mt σ T) (hp : ft_pr T) (ho : ft_ok T) (hN : nv σ L) (he : ¬ (0 ≤ s ∧ s < 4) → ro σ L 0 1 Q) (h : 0 ≤ s ∧ s < 4 → ro σ (ups L s.toNat (pf_mk 1 16 [16] [])) 1 0 Q) : am_M (d + 3) 1240132 [am_r 11 0, am_i s] σ Q :=
  sp_m_one (C := CLN σ L) hp ho (fun hs => he hs _ (nv_fm hN (fm_th σ 1) th_n) (set_same ..) (fm_mono (fm_th σ 1) mrS_th)) (clN hN) (fun τ hC => ⟨mt_mr hT (CLN_f hC), CLN_0 hC, hC.1⟩) (fun hs τ f υ hC hn hw h0 h1 hf => h hs υ (nv_leaf (fun j hj => (hN j hj).1) hC hn (by decide) hw h1 hf) h0 (fm_trans (CLN_f hC) (fm_mono hf (mrS_ax f _))))
theorem md_mr {σ τ : am_S} {D : List Int} (h : md σ D) (hf : fm mrS σ τ) : md τ D := md_fm h hf (fun a c h1 h2 => by unfold mdS at h1; unfold mrS at h2; omega)
theorem sp_m_topN {d : Nat} {s : Int} {T : ftT} {D : List Int} {L : Nat → List pfN} {σ : am_S} {Q : am_Q} (hT : mt σ T) (hp : ft_pr T) (ho : ft_ok T) (hN : nv σ L) (hmd : md σ D) (hD : D.Pairwise (· ≤ ·)) (hDr : ∀ x ∈ D, 0 ≤ x ∧ x < 20 + (T.length : Int)) (he : ¬ (0 ≤ s ∧ s < 4) → ro σ L 0 1 Q) (hf : 0 ≤ s ∧ s < 4 → 8 < (li_ins 19 D).length ∨ 12 < ft_lvs T (li_ins 19 D) → ro σ L 0 2 Q) (h : 0 ≤ s ∧ s < 4 → (li_ins 19 D).length ≤ 8 → ft_lvs T (li_ins 19 D) ≤ 12 → ro σ (ups L s.toNat (pf_mk 2 19 (li_ins 19 D) [])) 1 0 Q) : am_M (d + 3) 1256516 [am_r 11 0, am_i s] σ Q :=
  sp_m_top (C := CLN σ L) hp ho hD hDr (fun hs => he hs _ (nv_fm hN (fm_th σ 1) th_n) (set_same ..) (fm_mono (fm_th σ 1) mrS_th)) (clN hN) (fun τ hC => ⟨mt_mr hT (CLN_f hC), md_mr hmd (CLN_f hC), CLN_0 hC, hC.1⟩) (fun hs hx τ f υ hC hn h0 h1 hf2 => hf hs hx υ (nv_leaf0 (fun j hj => (hN j hj).1) hC hn h1 hf2) h0 (fm_trans (CLN_f hC) (fm_mono hf2 (mrS_ax f _)))) (fun hs q1 q2 τ f υ hC hn hw h0 h1 hf => h hs q1 q2 υ (nv_leaf (fun j hj => (hN j hj).1) hC hn (by decide) hw h1 hf) h0 (fm_trans (CLN_f hC) (fm_mono hf (mrS_ax f _))))
theorem ca_axiom {σ : am_S} {T : ftT} {X D : List Int} {L : Nat → List pfN} {J : am_S → Prop} {s k : Int} (hb : 0 < σ.2.2.2) (h : iv σ T X D L) (hK : aK σ T J) : lc_B 148614 1223782 [(1, 1)] [am_i s, am_i k] σ J := by
  obtain ⟨wf, wp, _⟩ := h.2.2.1
  obtain ⟨o, hp4⟩ := h.1.2.2.2.2.2.1
  refine sp_pw_axiom (d := 145) hb h.1.1 wf.1 h.1.2.2.2.2.1 hp4 (fun hs => rb_e0 h hK hb rfl (by decide) ?_) (fun hs hk τ a1 a2 a3 => ?_)
  · exact fun Q hm hn hr => sp_m_axiomN (d := 156) hm.1 wp wf.1 hn (fun _ => hr) (fun h1 h2 => absurd ⟨h1, h2⟩ hs)
  · have hM : pr T (pf_mk 0 (2 * k) [2 * k, 2 * k + 1] []) := pr_z (by simp; omega) (fun x hx => by
      rcases List.mem_cons.mp hx with rfl | hx
      · omega
      · rw [List.mem_singleton.mp hx]; omega) (Or.inl ⟨rfl, rfl, by omega, by omega, by omega⟩) (by show 2 ≤ 8; decide) (by
      have := (ft_lvs_le wf.1 [2 * k, 2 * k + 1]).2
      have e : ft_lvs T [2 * k, 2 * k + 1] = 2 := by
        show ft_lv T (2 * k) + (ft_lv T (2 * k + 1) + 0) = 2
        rw [ft_lv_at (by omega), ft_lv_at (by omega)]
        rfl
      omega)
    obtain ⟨hu, h4⟩ := iv_up (s := s.toNat) h hM (by omega)
    exact rb_ok (L' := ups L s.toNat (pf_mk 0 (2 * k) [2 * k, 2 * k + 1] [])) h hK (cv_done h.1 (by omega) a1 a2 a3) (cE_4 a3) a3.2 hu h4 (fun τ' Q hm hn hr => sp_m_axiomN (d := 156) hm.1 wp wf.1 hn (fun h1 => absurd ⟨hs, hk⟩ h1) (fun _ _ => hr))
theorem ca_one {σ : am_S} {T : ftT} {X D : List Int} {L : Nat → List pfN} {J : am_S → Prop} {s : Int} (hb : 0 < σ.2.2.2) (h : iv σ T X D L) (hK : aK σ T J) : lc_B 164964 1240132 [(1, 1)] [am_i s] σ J := by
  obtain ⟨wf, wp, _⟩ := h.2.2.1
  obtain ⟨o, hp4⟩ := h.1.2.2.2.2.2.1
  refine sp_pw_one (d := 145) hb h.1.1 wf.1 h.1.2.2.2.2.1 hp4 (fun hs => rb_e0 h hK hb rfl (by decide) ?_) (fun hs τ a1 a2 a3 => ?_)
  · exact fun Q hm hn hr => sp_m_oneN (d := 156) hm.1 wp wf.1 hn (fun _ => hr) (fun h1 => absurd h1 hs)
  · have hM : pr T (pf_mk 1 16 [16] []) := pr_z (by simp) (fun x hx => by rw [List.mem_singleton.mp hx]; omega) (Or.inr (Or.inl ⟨rfl, rfl, rfl⟩)) (by decide) (by
      have := (ft_lvs_le wf.1 [16]).2
      have e : (([16] : List Int).length : Int) = 1 := rfl
      omega)
    obtain ⟨hu, h4⟩ := iv_up (s := s.toNat) h hM (by omega)
    exact rb_ok (L' := ups L s.toNat (pf_mk 1 16 [16] [])) h hK (cv_done h.1 (by omega) a1 a2 a3) (cE_4 a3) a3.2 hu h4 (fun τ' Q hm hn hr => sp_m_oneN (d := 156) hm.1 wp wf.1 hn (fun h1 => absurd hs h1) (fun _ => hr))
theorem ca_top {σ : am_S} {T : ftT} {X D : List Int} {L : Nat → List pfN} {J : am_S → Prop} {s : Int} (hb : 0 < σ.2.2.2) (h : iv σ T X D L) (hK : aK σ T J) : lc_B 181348 1256516 [(1, 1), (3, 2)] [am_i s] σ J := by
  obtain ⟨wf, wp, _, wd, wr, w8, _⟩ := h.2.2.1
  obtain ⟨o, hp4⟩ := h.1.2.2.2.2.2.1
  have hD8 : D.length ≤ 8 := by have := (ft_lvs_le wf.1 D).1; omega
  refine sp_pw_top (d := 145) hb h.1.1 wf.1 h.1.2.2.2.2.1 hp4 h.1.2.2.1 wd hD8 (fun hs => rb_e0 h hK hb rfl (by decide) ?_) (fun hs hx τ o ho hf => rb_e1 h hK hb (cv_fail h.1 ho hf) (cE_s4 hf) hf.2 rfl (by decide) ?_) (fun hs h8 h12 τ a1 a2 a3 => ?_)
  · exact fun Q hm hn hr => sp_m_topN (d := 156) hm.1 wp wf.1 hn hm.2.2 wd wr (fun _ => hr) (fun h1 => absurd h1 hs) (fun h1 => absurd h1 hs)
  · exact fun Q hm hn hr => sp_m_topN (d := 156) hm.1 wp wf.1 hn hm.2.2 wd wr (fun h1 => absurd hs h1) (fun _ _ => hr) (fun _ q1 q2 => absurd hx (by omega))
  · have hM : pr T (pf_mk 2 19 (li_ins 19 D) []) := pr_z (li_ins_sorted wd) (fun x hx => by
      rcases li_ins_mem.mp hx with rfl | hx
      · omega
      · exact wr x hx) (Or.inr (Or.inr ⟨rfl, rfl, li_ins_mem.mpr (Or.inl rfl)⟩)) h8 h12
    obtain ⟨hu, h4⟩ := iv_up (s := s.toNat) h hM (by omega)
    exact rb_ok (L' := ups L s.toNat (pf_mk 2 19 (li_ins 19 D) [])) h hK (cv_done h.1 (by omega) a1 a2 a3) (cE_4 a3) a3.2 hu h4 (fun τ' Q hm hn hr => sp_m_topN (d := 156) hm.1 wp wf.1 hn hm.2.2 wd wr (fun h1 => absurd hs h1) (fun _ q => absurd q (by omega)) (fun _ _ _ => hr))
