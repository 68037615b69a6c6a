/-! .. the calls themselves (written by our program) -/
theorem ca_bottom {σ : am_S} {T : ftT} {X D : List Int} {L : Nat → List pfN} {J : am_S → Prop} {s : Int} (hb : 0 < σ.2.2.2) (h : iv σ T X D L) (hK : aK σ T J) : lc_B 197764 1289284 [(1, 1), (2, 2), (3, 3)] [am_i s] σ J := by
  have hl := iv_ll h
  obtain ⟨wf, wp, _⟩ := h.2.2.1
  obtain ⟨o, hp4⟩ := h.1.2.2.2.2.2.1
  have eM : rl (pf_mk 3 17 (br_l T 3 17 (rl (L s.toNat)) []) (L s.toNat)) = li_ins 17 (rl (L s.toNat)) := rfl
  refine sp_pw_bottom (d := 145) hb h.1.1 wf.1 h.1.2.2.2.2.1 hp4 (iv_8 h) (fun hs => rb_e0 h hK hb rfl (by decide) ?_) (fun hs he => rb_e0 h hK hb rfl (by decide) ?_) (fun hs hne hx τ o ho hf => rb_e1 h hK hb (cv_fail h.1 ho hf) (cE_s4 hf) hf.2 rfl (by decide) ?_) (fun hs hne h99 h8 h12 τ a1 a2 a3 => ?_)
  · exact fun Q hm hn hr => sp_m_bottom (d := 155) hm.1 wp wf.1 wf.2.2.2 hn hl (fun _ => hr) (fun h1 => absurd h1 hs) (fun h1 => absurd h1 hs)
  · exact fun Q hm hn hr => sp_m_bottom (d := 155) hm.1 wp wf.1 wf.2.2.2 hn hl (fun h1 => absurd hs h1) (fun _ _ => hr) (fun _ h1 => absurd he h1)
  · exact fun Q hm hn hr => sp_m_bottom (d := 155) hm.1 wp wf.1 wf.2.2.2 hn hl (fun h1 => absurd hs h1) (fun _ h1 => absurd h1 hne) (fun _ _ => ⟨fun q1 q2 q3 => absurd hx (by rw [mk_len] at q1; rw [eM] at q2 q3; omega), fun _ => hr⟩)
  · skip
    have hM : pr T (pf_mk 3 17 (br_l T 3 17 (rl (L s.toNat)) []) (L s.toNat)) := pr_o (h.2.2.2.2.1 s.toNat (by omega)) hne (Or.inl ⟨rfl, rfl⟩) (by rw [← eM] at h8; exact h8) (by rw [← eM] at h12; exact h12)
    obtain ⟨hu, h4⟩ := iv_up (s := s.toNat) h hM (by omega)
    rw [← eM] at h8 h12 a1 a2
    refine rb_ok (L' := ups L s.toNat (pf_mk 3 17 (br_l T 3 17 (rl (L s.toNat)) []) (L s.toNat))) h hK (cv_done h.1 (by omega) a1 a2 a3) (cE_4 a3) a3.2 hu h4 (fun τ' Q hm hn hr => ?_)
    exact sp_m_bottom (d := 155) hm.1 wp wf.1 wf.2.2.2 hn hl (fun h1 => absurd hs h1) (fun _ h1 => absurd h1 hne) (fun _ _ => ⟨fun q1 q2 q3 => hr, fun q => absurd q (by rw [mk_len]; omega)⟩)
theorem ca_par {σ : am_S} {T : ftT} {X D : List Int} {L : Nat → List pfN} {J : am_S → Prop} {s n : Int} (hb : 0 < σ.2.2.2) (h : iv σ T X D L) (hK : aK σ T J) : lc_B 214182 1322086 [(1, 1), (2, 2), (3, 3)] [am_i s, am_i n] σ J := by
  have hl := iv_ll h
  obtain ⟨wf, wp, _⟩ := h.2.2.1
  obtain ⟨o, hp4⟩ := h.1.2.2.2.2.2.1
  have eM : rl (pf_mk 4 n (br_l T 4 n (rl (L s.toNat)) []) (L s.toNat)) = li_ins n (((rl (L s.toNat)).erase (ft_fst T n)).erase (ft_snd T n)) := rfl
  refine sp_pw_par (d := 145) hb h.1.1 wf.1 h.1.2.2.2.2.1 hp4 (iv_8 h) (fun hs => rb_e0 h hK hb rfl (by decide) ?_) (fun hs hsg he => rb_e0 h hK hb rfl (by decide) ?_) (fun hs hsg hne hc τ o ho hf => rb_e1 h hK hb (cv_fail h.1 ho hf) (cE_s4 hf) hf.2 rfl (by decide) ?_) (fun hs hsg hne hc l hle hx τ o ho hf => rb_e1 h hK hb (cv_fail h.1 ho hf) (cE_s4 hf) hf.2 rfl (by decide) ?_) (fun hs hsg hne hc l hle h99 h8 h12 τ a1 a2 a3 => ?_)
  · exact fun Q hm hn hr => sp_m_par (d := 155) hm.1 wp wf.1 wf.2.2.2 hn hl (fun _ => hr) (fun h1 h2 => absurd ⟨h1, h2⟩ hs) (fun h1 h2 => absurd ⟨h1, h2⟩ hs)
  · exact fun Q hm hn hr => sp_m_par (d := 155) hm.1 wp wf.1 wf.2.2.2 hn hl (fun h1 => absurd ⟨hs, hsg⟩ h1) (fun _ _ _ => hr) (fun _ _ h1 => absurd he h1)
  · exact fun Q hm hn hr => sp_m_par (d := 155) hm.1 wp wf.1 wf.2.2.2 hn hl (fun h1 => absurd ⟨hs, hsg⟩ h1) (fun _ _ _ => hr) (fun _ _ _ h1 => absurd h1 hc)
  · subst hle; exact fun Q hm hn hr => sp_m_par (d := 155) hm.1 wp wf.1 wf.2.2.2 hn hl (fun h1 => absurd ⟨hs, hsg⟩ h1) (fun _ _ h1 => absurd h1 (by rintro (q | q); exact hne q; exact q hc)) (fun _ _ _ _ => ⟨fun q1 q2 q3 => absurd hx (by rw [mk_len] at q1; rw [eM] at q2 q3; omega), fun _ => hr⟩)
  · subst hle
    have hM : pr T (pf_mk 4 n (br_l T 4 n (rl (L s.toNat)) []) (L s.toNat)) := pr_o (h.2.2.2.2.1 s.toNat (by omega)) hne (Or.inr (Or.inl ⟨rfl, hsg, hc.1, hc.2⟩)) (by rw [← eM] at h8; exact h8) (by rw [← eM] at h12; exact h12)
    obtain ⟨hu, h4⟩ := iv_up (s := s.toNat) h hM (by omega)
    rw [← eM] at h8 h12 a1 a2
    refine rb_ok (L' := ups L s.toNat (pf_mk 4 n (br_l T 4 n (rl (L s.toNat)) []) (L s.toNat))) h hK (cv_done h.1 (by omega) a1 a2 a3) (cE_4 a3) a3.2 hu h4 (fun τ' Q hm hn hr => ?_)
    exact sp_m_par (d := 155) hm.1 wp wf.1 wf.2.2.2 hn hl (fun h1 => absurd ⟨hs, hsg⟩ h1) (fun _ _ h1 => absurd h1 (by rintro (q | q); exact hne q; exact q hc)) (fun _ _ _ _ => ⟨fun q1 q2 q3 => hr, fun q => absurd q (by rw [mk_len]; omega)⟩)
theorem pl_l (T : ftT) (n z : Int) (l : List Int) : br_l T (pl_r z) n l [] = li_ins n (l.erase (pl_p T n z)) := by
  unfold pl_r pl_p
  split
  · rfl
  · rfl
theorem pl_vo {T : ftT} {n z : Int} {l : List Int} (hs : ft_sign T n = 2) (h : pl_p T n z ∈ l) : vo T (pl_r z) n l := by
  unfold pl_p at h
  unfold pl_r
  split
  · rename_i q; rw [if_pos q] at h; exact Or.inr (Or.inr (Or.inl ⟨rfl, hs, h⟩))
  · rename_i q; rw [if_neg q] at h; exact Or.inr (Or.inr (Or.inr ⟨rfl, hs, h⟩))
theorem ca_plus {σ : am_S} {T : ftT} {X D : List Int} {L : Nat → List pfN} {J : am_S → Prop} {s n z : Int} (hb : 0 < σ.2.2.2) (h : iv σ T X D L) (hK : aK σ T J) : lc_B 230600 1338504 [(1, 1), (2, 2), (3, 3)] [am_i s, am_i n, am_i z] σ J := by
  have hl := iv_ll h
  obtain ⟨wf, wp, _⟩ := h.2.2.1
  obtain ⟨o, hp4⟩ := h.1.2.2.2.2.2.1
  have eM : rl (pf_mk (pl_r z) n (br_l T (pl_r z) n (rl (L s.toNat)) []) (L s.toNat)) = li_ins n ((rl (L s.toNat)).erase (pl_p T n z)) := pl_l T n z _
  refine sp_pw_plus (d := 145) hb h.1.1 wf.1 h.1.2.2.2.2.1 hp4 (iv_8 h) (fun hs => rb_e0 h hK hb rfl (by decide) ?_) (fun hs hsg he => rb_e0 h hK hb rfl (by decide) ?_) (fun hs hsg hne hc τ o ho hf => rb_e1 h hK hb (cv_fail h.1 ho hf) (cE_s4 hf) hf.2 rfl (by decide) ?_) (fun hs hsg hne hc l hle hx τ o ho hf => rb_e1 h hK hb (cv_fail h.1 ho hf) (cE_s4 hf) hf.2 rfl (by decide) ?_) (fun hs hsg hne hc l hle h99 h8 h12 τ a1 a2 a3 => ?_)
  · exact fun Q hm hn hr => sp_m_plus (d := 155) hm.1 wp wf.1 wf.2.2.2 hn hl (fun _ => hr) (fun h1 h2 => absurd ⟨h1, h2⟩ hs) (fun h1 h2 => absurd ⟨h1, h2⟩ hs)
  · exact fun Q hm hn hr => sp_m_plus (d := 155) hm.1 wp wf.1 wf.2.2.2 hn hl (fun h1 => absurd ⟨hs, hsg⟩ h1) (fun _ _ _ => hr) (fun _ _ h1 => absurd he h1)
  · exact fun Q hm hn hr => sp_m_plus (d := 155) hm.1 wp wf.1 wf.2.2.2 hn hl (fun h1 => absurd ⟨hs, hsg⟩ h1) (fun _ _ _ => hr) (fun _ _ _ h1 => absurd h1 hc)
  · subst hle; exact fun Q hm hn hr => sp_m_plus (d := 155) hm.1 wp wf.1 wf.2.2.2 hn hl (fun h1 => absurd ⟨hs, hsg⟩ h1) (fun _ _ h1 => absurd h1 (by rintro (q | q); exact hne q; exact q hc)) (fun _ _ _ _ => ⟨fun q1 q2 q3 => absurd hx (by rw [mk_len] at q1; rw [eM] at q2 q3; omega), fun _ => hr⟩)
  · subst hle
    have hM : pr T (pf_mk (pl_r z) n (br_l T (pl_r z) n (rl (L s.toNat)) []) (L s.toNat)) := pr_o (h.2.2.2.2.1 s.toNat (by omega)) hne (pl_vo hsg hc) (by rw [← eM] at h8; exact h8) (by rw [← eM] at h12; exact h12)
    obtain ⟨hu, h4⟩ := iv_up (s := s.toNat) h hM (by omega)
    rw [← eM] at h8 h12 a1 a2
    refine rb_ok (L' := ups L s.toNat (pf_mk (pl_r z) n (br_l T (pl_r z) n (rl (L s.toNat)) []) (L s.toNat))) h hK (cv_done h.1 (by omega) a1 a2 a3) (cE_4 a3) a3.2 hu h4 (fun τ' Q hm hn hr => ?_)
    exact sp_m_plus (d := 155) hm.1 wp wf.1 wf.2.2.2 hn hl (fun h1 => absurd ⟨hs, hsg⟩ h1) (fun _ _ h1 => absurd h1 (by rintro (q | q); exact hne q; exact q hc)) (fun _ _ _ _ => ⟨fun q1 q2 q3 => hr, fun q => absurd q (by rw [mk_len]; omega)⟩)
theorem ca_with {σ : am_S} {T : ftT} {X D : List Int} {L : Nat → List pfN} {J : am_S → Prop} {s t n : Int} (hb : 0 < σ.2.2.2) (h : iv σ T X D L) (hK : aK σ T J) : lc_B 246952 1387656 [(1, 1), (2, 2), (3, 3)] [am_i s, am_i t, am_i n] σ J := by
  have hl := iv_ll h
  obtain ⟨wf, wp, _⟩ := h.2.2.1
  obtain ⟨o, hp4⟩ := h.1.2.2.2.2.2.1
  obtain ⟨g, hg⟩ := h.1.2.2.2.1
  have eM : rl (pf_mk 5 n (br_l T 5 n (rl (L s.toNat)) (rl (L t.toNat))) (L s.toNat ++ L t.toNat)) = li_ins n ((rl (L s.toNat)).erase (ft_fst T n)) := rfl
  refine sp_pw_with (d := 145) hb h.1.1 wf.1 h.1.2.2.2.2.1 hp4 hg (iv_8 h) (fun hs => rb_e0 h hK hb rfl (by decide) ?_) (fun hs ht hsg he => rb_e0 h hK hb rfl (by decide) ?_) (fun hs ht hsg hne hne2 hc τ o l ho hl2 hf => rb_e1 h hK hb (cv_fail2 h.1 ho hl2 hf) (cE_S2 hf) hf.2 rfl (by decide) ?_) (fun hs ht hsg hne hne2 hc l hle hx τ o l2 ho hl2 hf => rb_e1 h hK hb (cv_fail2 h.1 ho hl2 hf) (cE_S2 hf) hf.2 rfl (by decide) ?_) (fun hs ht hsg hne hne2 hc l hle h99 h8 h12 τ l2 a1 a2 hl2 a3 => ?_)
  · exact fun Q hm hn hr => sp_m_with (d := 154) hm.1 wp wf.1 wf.2.2.2 hn hl (fun _ => hr) (fun h1 h2 h3 => absurd ⟨h1, h2, h3⟩ hs) (fun h1 h2 h3 => absurd ⟨h1, h2, h3⟩ hs)
  · exact fun Q hm hn hr => sp_m_with (d := 154) hm.1 wp wf.1 wf.2.2.2 hn hl (fun h1 => absurd ⟨hs, ht, hsg⟩ h1) (fun _ _ _ _ => hr) (fun _ _ _ h1 h2 => absurd he (by rintro (q | q); exact h1 q; exact h2 q))
  · exact fun Q hm hn hr => sp_m_with (d := 154) hm.1 wp wf.1 wf.2.2.2 hn hl (fun h1 => absurd ⟨hs, ht, hsg⟩ h1) (fun _ _ _ _ => hr) (fun _ _ _ _ _ h1 => absurd (⟨h1.1, h1.2.1, h1.2.2 rfl⟩) hc)
  · have hB : bth 5 (ft_fst T n) (ft_snd T n) (rl (L s.toNat)) (rl (L t.toNat)) := ⟨hc.1, hc.2.1, fun _ => hc.2.2⟩
    subst hle
    exact fun Q hm hn hr => sp_m_with (d := 154) hm.1 wp wf.1 wf.2.2.2 hn hl (fun h1 => absurd ⟨hs, ht, hsg⟩ h1) (fun _ _ _ h1 => absurd h1 (by rintro (q | q | q); exact hne q; exact hne2 q; exact q hB)) (fun _ _ _ _ _ _ => ⟨fun q1 q2 q3 => absurd hx (by rw [mk_len] at q1; rw [eM] at q2 q3; omega), fun _ => hr⟩)
  · have hB : bth 5 (ft_fst T n) (ft_snd T n) (rl (L s.toNat)) (rl (L t.toNat)) := ⟨hc.1, hc.2.1, fun _ => hc.2.2⟩
    subst hle
    have hM : pr T (pf_mk 5 n (br_l T 5 n (rl (L s.toNat)) (rl (L t.toNat))) (L s.toNat ++ L t.toNat)) := pr_t (h.2.2.2.2.1 s.toNat (by omega)) hne (h.2.2.2.2.1 t.toNat (by omega)) hne2 (Or.inl ⟨rfl, hsg, hc.1, hc.2.1, hc.2.2⟩) (by rw [← eM] at h8; exact h8) (by rw [← eM] at h12; exact h12)
    obtain ⟨hu, h4⟩ := iv_up (s := s.toNat) h hM (by omega)
    rw [← eM] at h8 h12 a1 a2
    refine rb_ok (L' := ups L s.toNat (pf_mk 5 n (br_l T 5 n (rl (L s.toNat)) (rl (L t.toNat))) (L s.toNat ++ L t.toNat))) h hK (cv_done2 h.1 (by omega) a1 a2 hl2 a3) (cE_S2s a3) a3.2 hu h4 (fun τ' Q hm hn hr => ?_)
    exact sp_m_with (d := 154) hm.1 wp wf.1 wf.2.2.2 hn hl (fun h1 => absurd ⟨hs, ht, hsg⟩ h1) (fun _ _ _ h1 => absurd h1 (by rintro (q | q | q); exact hne q; exact hne2 q; exact q hB)) (fun _ _ _ _ _ _ => ⟨fun q1 q2 q3 => hr, fun q => absurd q (by rw [mk_len]; omega)⟩)
theorem ca_times {σ : am_S} {T : ftT} {X D : List Int} {L : Nat → List pfN} {J : am_S → Prop} {s t n : Int} (hb : 0 < σ.2.2.2) (h : iv σ T X D L) (hK : aK σ T J) : lc_B 263336 1404040 [(1, 1), (2, 2), (3, 3)] [am_i s, am_i t, am_i n] σ J := by
  have hl := iv_ll h
  obtain ⟨wf, wp, _⟩ := h.2.2.1
  obtain ⟨o, hp4⟩ := h.1.2.2.2.2.2.1
  obtain ⟨g, hg⟩ := h.1.2.2.2.1
  have eM : rl (pf_mk 8 n (br_l T 8 n (rl (L s.toNat)) (rl (L t.toNat))) (L s.toNat ++ L t.toNat)) = li_ins n (li_insAll ((rl (L s.toNat)).erase (ft_fst T n)) ((rl (L t.toNat)).erase (ft_snd T n))) := rfl
  refine sp_pw_times (d := 145) hb h.1.1 wf.1 h.1.2.2.2.2.1 hp4 hg (iv_8 h) (fun hs => rb_e0 h hK hb rfl (by decide) ?_) (fun hs ht hsg he => rb_e0 h hK hb rfl (by decide) ?_) (fun hs ht hsg hne hne2 hc τ o l ho hl2 hf => rb_e1 h hK hb (cv_fail2 h.1 ho hl2 hf) (cE_S2 hf) hf.2 rfl (by decide) ?_) (fun hs ht hsg hne hne2 hc l hle hx τ o l2 ho hl2 hf => rb_e1 h hK hb (cv_fail2 h.1 ho hl2 hf) (cE_S2 hf) hf.2 rfl (by decide) ?_) (fun hs ht hsg hne hne2 hc l hle h99 h8 h12 τ l2 a1 a2 hl2 a3 => ?_)
  · exact fun Q hm hn hr => sp_m_times (d := 154) hm.1 wp wf.1 wf.2.2.2 hn hl (fun _ => hr) (fun h1 h2 h3 => absurd ⟨h1, h2, h3⟩ hs) (fun h1 h2 h3 => absurd ⟨h1, h2, h3⟩ hs)
  · exact fun Q hm hn hr => sp_m_times (d := 154) hm.1 wp wf.1 wf.2.2.2 hn hl (fun h1 => absurd ⟨hs, ht, hsg⟩ h1) (fun _ _ _ _ => hr) (fun _ _ _ h1 h2 => absurd he (by rintro (q | q); exact h1 q; exact h2 q))
  · exact fun Q hm hn hr => sp_m_times (d := 154) hm.1 wp wf.1 wf.2.2.2 hn hl (fun h1 => absurd ⟨hs, ht, hsg⟩ h1) (fun _ _ _ _ => hr) (fun _ _ _ _ _ h1 => absurd (⟨h1.1, h1.2.1⟩) hc)
  · have hB : bth 8 (ft_fst T n) (ft_snd T n) (rl (L s.toNat)) (rl (L t.toNat)) := ⟨hc.1, hc.2, fun q => absurd q (by decide)⟩
    subst hle
    exact fun Q hm hn hr => sp_m_times (d := 154) hm.1 wp wf.1 wf.2.2.2 hn hl (fun h1 => absurd ⟨hs, ht, hsg⟩ h1) (fun _ _ _ h1 => absurd h1 (by rintro (q | q | q); exact hne q; exact hne2 q; exact q hB)) (fun _ _ _ _ _ _ => ⟨fun q1 q2 q3 => absurd hx (by rw [mk_len] at q1; rw [eM] at q2 q3; omega), fun _ => hr⟩)
  · have hB : bth 8 (ft_fst T n) (ft_snd T n) (rl (L s.toNat)) (rl (L t.toNat)) := ⟨hc.1, hc.2, fun q => absurd q (by decide)⟩
    subst hle
    have hM : pr T (pf_mk 8 n (br_l T 8 n (rl (L s.toNat)) (rl (L t.toNat))) (L s.toNat ++ L t.toNat)) := pr_t (h.2.2.2.2.1 s.toNat (by omega)) hne (h.2.2.2.2.1 t.toNat (by omega)) hne2 (Or.inr (Or.inl ⟨rfl, hsg, hc.1, hc.2⟩)) (by rw [← eM] at h8; exact h8) (by rw [← eM] at h12; exact h12)
    obtain ⟨hu, h4⟩ := iv_up (s := s.toNat) h hM (by omega)
    rw [← eM] at h8 h12 a1 a2
    refine rb_ok (L' := ups L s.toNat (pf_mk 8 n (br_l T 8 n (rl (L s.toNat)) (rl (L t.toNat))) (L s.toNat ++ L t.toNat))) h hK (cv_done2 h.1 (by omega) a1 a2 hl2 a3) (cE_S2s a3) a3.2 hu h4 (fun τ' Q hm hn hr => ?_)
    exact sp_m_times (d := 154) hm.1 wp wf.1 wf.2.2.2 hn hl (fun h1 => absurd ⟨hs, ht, hsg⟩ h1) (fun _ _ _ h1 => absurd h1 (by rintro (q | q | q); exact hne q; exact hne2 q; exact q hB)) (fun _ _ _ _ _ _ => ⟨fun q1 q2 q3 => hr, fun q => absurd q (by rw [mk_len]; omega)⟩)
theorem ca_cut {σ : am_S} {T : ftT} {X D : List Int} {L : Nat → List pfN} {J : am_S → Prop} {s t n : Int} (hb : 0 < σ.2.2.2) (h : iv σ T X D L) (hK : aK σ T J) : lc_B 279720 1420424 [(1, 1), (2, 2), (3, 3)] [am_i s, am_i t, am_i n] σ J := by
  have hl := iv_ll h
  obtain ⟨wf, wp, _⟩ := h.2.2.1
  obtain ⟨o, hp4⟩ := h.1.2.2.2.2.2.1
  obtain ⟨g, hg⟩ := h.1.2.2.2.1
  have eM : rl (pf_mk 9 n (br_l T 9 n (rl (L s.toNat)) (rl (L t.toNat))) (L s.toNat ++ L t.toNat)) = li_insAll ((rl (L s.toNat)).erase n) ((rl (L t.toNat)).erase (du n)) := rfl
  refine sp_pw_cut (d := 145) hb h.1.1 wf.1 h.1.2.2.2.2.1 hp4 hg (iv_8 h) (fun hs => rb_e0 h hK hb rfl (by decide) ?_) (fun hs ht hsg he => rb_e0 h hK hb rfl (by decide) ?_) (fun hs ht hsg hne hne2 hc τ o l ho hl2 hf => rb_e1 h hK hb (cv_fail2 h.1 ho hl2 hf) (cE_S2 hf) hf.2 rfl (by decide) ?_) (fun hs ht hsg hne hne2 hc l hle hx τ o l2 ho hl2 hf => rb_e1 h hK hb (cv_fail2 h.1 ho hl2 hf) (cE_S2 hf) hf.2 rfl (by decide) ?_) (fun hs ht hsg hne hne2 hc l hle h99 h8 h12 τ l2 a1 a2 hl2 a3 => ?_)
  · exact fun Q hm hn hr => sp_m_cut (d := 154) hm.1 wp wf.1 wf.2.2.2 hn hl (fun _ => hr) (fun h1 h2 h3 => absurd ⟨h1, h2, h3⟩ hs) (fun h1 h2 h3 => absurd ⟨h1, h2, h3⟩ hs)
  · exact fun Q hm hn hr => sp_m_cut (d := 154) hm.1 wp wf.1 wf.2.2.2 hn hl (fun h1 => absurd ⟨hs, ht, hsg⟩ h1) (fun _ _ _ _ => hr) (fun _ _ _ h1 h2 => absurd he (by rintro (q | q); exact h1 q; exact h2 q))
  · exact fun Q hm hn hr => sp_m_cut (d := 154) hm.1 wp wf.1 wf.2.2.2 hn hl (fun h1 => absurd ⟨hs, ht, hsg⟩ h1) (fun _ _ _ _ => hr) (fun _ _ _ _ _ h1 => absurd (⟨h1.1, h1.2.1⟩) hc)
  · have hB : bth 9 n (du n) (rl (L s.toNat)) (rl (L t.toNat)) := ⟨hc.1, hc.2, fun q => absurd q (by decide)⟩
    subst hle
    exact fun Q hm hn hr => sp_m_cut (d := 154) hm.1 wp wf.1 wf.2.2.2 hn hl (fun h1 => absurd ⟨hs, ht, hsg⟩ h1) (fun _ _ _ h1 => absurd h1 (by rintro (q | q | q); exact hne q; exact hne2 q; exact q hB)) (fun _ _ _ _ _ _ => ⟨fun q1 q2 q3 => absurd hx (by rw [mk_len] at q1; rw [eM] at q2 q3; omega), fun _ => hr⟩)
  · have hB : bth 9 n (du n) (rl (L s.toNat)) (rl (L t.toNat)) := ⟨hc.1, hc.2, fun q => absurd q (by decide)⟩
    subst hle
    have hM : pr T (pf_mk 9 n (br_l T 9 n (rl (L s.toNat)) (rl (L t.toNat))) (L s.toNat ++ L t.toNat)) := pr_t (h.2.2.2.2.1 s.toNat (by omega)) hne (h.2.2.2.2.1 t.toNat (by omega)) hne2 (Or.inr (Or.inr ⟨rfl, hsg, hc.1, hc.2, by have := ft_lv_le wf.1 n; rw [← eM] at h12; have q : ft_lvs T (br_l T 9 n (rl (L s.toNat)) (rl (L t.toNat))) ≤ 12 := h12; omega⟩)) (by rw [← eM] at h8; exact h8) (by rw [← eM] at h12; exact h12)
    obtain ⟨hu, h4⟩ := iv_up (s := s.toNat) h hM (by omega)
    rw [← eM] at h8 h12 a1 a2
    refine rb_ok (L' := ups L s.toNat (pf_mk 9 n (br_l T 9 n (rl (L s.toNat)) (rl (L t.toNat))) (L s.toNat ++ L t.toNat))) h hK (cv_done2 h.1 (by omega) a1 a2 hl2 a3) (cE_S2s a3) a3.2 hu h4 (fun τ' Q hm hn hr => ?_)
    exact sp_m_cut (d := 154) hm.1 wp wf.1 wf.2.2.2 hn hl (fun h1 => absurd ⟨hs, ht, hsg⟩ h1) (fun _ _ _ h1 => absurd h1 (by rintro (q | q | q); exact hne q; exact hne2 q; exact q hB)) (fun _ _ _ _ _ _ => ⟨fun q1 q2 q3 => hr, fun q => absurd q (by rw [mk_len]; omega)⟩)
