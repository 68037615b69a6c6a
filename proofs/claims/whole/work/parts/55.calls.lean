/-! The calls that leave proofs alone -/
theorem rt_fr {S : Nat → Nat → Prop} {σ τ : am_S} {X : List Int} (h : rt σ X) (hf : fr S σ τ) (h3 : ¬ S 3 0) (h31 : ¬ S 31 0) : rt τ X := by
  unfold rt at h ⊢
  rw [hf.1 3 0 h3, hf.1 31 0 h31]
  exact h
theorem cv_g {S : Nat → Nat → Prop} {σ τ : am_S} {T T' : ftT} {X X' D D' : List Int} {L : Nat → List pfN} (h : cv σ T X D L) (hf : fr S σ τ) (hn : ∀ a b, S a b → a ≠ 6 ∧ a ≠ 7 ∧ (a = 5 ∨ a = 12 → b = 0)) (hT : ft τ T') (hX : rt τ X') (hD : sq τ 0 D') : cv τ T' X' D' L := by
  have hp : ∀ p a b, pfS p a b → ¬ S a b := by
    intro p a b h1 h2
    have := hn a b h2
    unfold pfS at h1
    omega
  obtain ⟨_, _, _, ⟨l, h1⟩, h2, ⟨o, h3⟩, h4⟩ := h
  exact ⟨hT, hX, hD, ⟨l, sq_fr h1 hf (fun q => by have := hn _ _ q; omega) (fun q => by have := hn _ _ q; omega)⟩, fun j hj => pq_fr (h2 j hj) hf (hp j), ⟨o, pq_fr h3 hf (hp 4)⟩, stI_fr h4 hf (hp 5) (hp 6)⟩
theorem ty_run_in {w : Int64} {X Y : List Int} (hl : X.length ≤ 60) (hX : ∀ c ∈ X, ty_in c) (h : ty_run w 8 0 X = some Y) : ∀ c ∈ Y, ty_in c := by
  obtain ⟨h1, h2⟩ := ty_run_cs w 8 0 X hl
  by_cases hb : (∀ c ∈ ty_cs w 8 0, ty_in c) ∧ X.length + (ty_cs w 8 0).length ≤ 60
  · rw [h1 hb] at h
    cases h
    intro c hc
    rcases List.mem_append.mp hc with hc | hc
    · exact hX c hc
    · exact hb.1 c hc
  · rw [h2 hb] at h
    cases h
theorem ft_at_pre {T T' : ftT} {n : Int} (h : T'.take T.length = T) (hn : n < 20 + (T.length : Int)) : ft_at T' n = ft_at T n := by
  unfold ft_at
  by_cases h20 : 20 ≤ n
  · rw [if_pos h20, if_pos h20]
    have e : T[(n - 20).toNat]? = (T'.take T.length)[(n - 20).toNat]? := by rw [h]
    rw [e, List.getElem?_take, if_pos (by omega)]
  · rw [if_neg h20, if_neg h20]
theorem ft_lv_pre {T T' : ftT} {n : Int} (h : T'.take T.length = T) (hn : n < 20 + (T.length : Int)) : ft_lv T' n = ft_lv T n := by
  unfold ft_lv
  rw [ft_at_pre h hn]
theorem ft_lvs_pre {T T' : ftT} (h : T'.take T.length = T) : ∀ l : List Int, (∀ x ∈ l, x < 20 + (T.length : Int)) → ft_lvs T' l = ft_lvs T l
  | [], _ => rfl
  | x :: l, hl => by
    unfold ft_lvs
    rw [ft_lv_pre h (hl x List.mem_cons_self), ft_lvs_pre h l (fun y hy => hl y (List.mem_cons_of_mem _ hy))]
theorem wv_pre {T T' : ftT} {X D : List Int} (h : wv T X D) (hw : ft_wf T') (hp : ft_pr T') (hsm : ft_sm T') (hle : T.length ≤ T'.length) (ht : T'.take T.length = T) : wv T' X D := by
  obtain ⟨_, _, h3, h4, h5, h6, _⟩ := h
  exact ⟨hw, hp, h3, h4, fun x hx => ⟨(h5 x hx).1, by have := (h5 x hx).2; omega⟩, by rw [ft_lvs_pre ht D (fun x hx => (h5 x hx).2)]; exact h6, hsm⟩
theorem ft_lvs_ins (T : ftT) (n : Int) : ∀ l : List Int, ft_lvs T (li_ins n l) = ft_lvs T l + ft_lv T n
  | [] => by simp [li_ins, ft_lvs]
  | x :: l => by
    unfold li_ins
    split
    · simp only [ft_lvs]; omega
    · simp only [ft_lvs]; rw [ft_lvs_ins T n l]; omega
theorem ft_lvs_er {T : ftT} (ho : ft_ok T) (n : Int) : ∀ l : List Int, ft_lvs T (l.erase n) ≤ ft_lvs T l
  | [] => Int.le_refl _
  | x :: l => by
    rw [List.erase_cons]
    have h1 := (ft_lv_le ho x).1
    split
    · simp only [ft_lvs]; omega
    · simp only [ft_lvs]
      have := ft_lvs_er ho n l
      omega
theorem rtS_c : ∀ a b, rtS a b → clK a := fun a b h => by unfold rtS at h; unfold clK; omega
theorem mxS_m : ∀ a c, mxS a c → moK a := fun a b h => by unfold mxS at h; unfold moK; omega
theorem thS_m : ∀ a c, thS a c → moK a := fun a b h => by unfold thS at h; unfold moK; omega
theorem mpS_m : ∀ a c, mpS a c → moK a := fun a b h => by unfold mpS at h; unfold moK; omega
theorem mkS_m : ∀ a c, mkS a c → moK a := fun a b h => by unfold mkS mtS thS at h; unfold moK; omega
theorem ftS_c : ∀ a b, ftS a b → clK a := fun a b h => by unfold ftS at h; unfold clK; omega
theorem wrS_c : ∀ a b, wrS a b → clK a := fun a b h => by unfold wrS at h; unfold clK; omega
theorem rfS_c : ∀ a b, rfS a b → clK a := fun a b h => by unfold rfS ftS at h; unfold clK; omega
theorem sqS_c (k : Nat) : ∀ a b, sqS k a b → clK a := fun a b h => by unfold sqS at h; unfold clK; omega
theorem pfS_c (k : Nat) : ∀ a b, pfS k a b → clK a := fun a b h => by unfold pfS at h; unfold clK; omega
/-- both sides of a call that is through -/
theorem af_of {σ τ υ : am_S} (h1 : cE σ τ) (hb : σ.2.2.2 ≤ τ.2.2.2 + 1) (h24 : τ.2.1 24 = σ.2.1 24) (h2 : mE τ υ) (h3 : nsE τ υ) : af σ υ :=
  ⟨lc_K_trans (cE_K h1) (mE_K h2), by rw [h2.2.2.2]; exact hb, h2.2.1.trans h24, nsE_trans (nsE_c h1) h3⟩
theorem af_fr {S M : Nat → Nat → Prop} {σ τ υ : am_S} (h1 : fr S σ τ) (hS : ∀ a b, S a b → clK a) (h2 : fm M τ υ) (hM : ∀ a c, M a c → moK a) (hN : ∀ a c, M a c → a < 118 ∨ (125 < a ∧ a ≠ 129)) : af σ υ :=
  af_of (cE_fr h1 hS) (by rw [h1.2]; omega) (by rw [h1.2]) (mE_fm h2 hM) (nsE_fm h2 hN)
theorem af_out {S M : Nat → Nat → Prop} {σ τ υ : am_S} {v : Int64} (h1 : fr S σ τ) (hS : ∀ a b, S a b → clK a) (h2 : fm M (am_setL τ 70 0 v) υ) (hM : ∀ a c, M a c → moK a) (hN : ∀ a c, M a c → a < 118 ∨ (125 < a ∧ a ≠ 129)) : af σ υ :=
  af_of (cE_trans (cE_fr h1 hS) (cE_out _ v)) (by show _ ≤ τ.2.2.2 + 1; rw [h1.2]; omega) (by show τ.2.1 24 = _; rw [h1.2]) (mE_fm h2 hM) (nsE_fm h2 hN)
theorem af_ex {M : Nat → Nat → Prop} {σ υ : am_S} (hb : 0 < σ.2.2.2) (h2 : fm M (ex σ) υ) (hM : ∀ a c, M a c → moK a) (hN : ∀ a c, M a c → a < 118 ∨ (125 < a ∧ a ≠ 129)) : af σ υ :=
  af_of (cE_ex σ) (by show _ ≤ σ.2.2.2 - 1 + 1; omega) rfl (mE_fm h2 hM) (nsE_fm h2 hN)
theorem mx_fm {S : Nat → Nat → Prop} {σ τ : am_S} {X : List Int} (h : mx σ X) (hf : fm S σ τ) (h6 : ¬ S 11 6) (h7 : ∀ c, ¬ S 107 c) : mx τ X := by
  obtain ⟨h1, h2, h3⟩ := h
  exact ⟨by rw [fm_at hf h6]; exact h1, h2, fun j hj => by rw [fm_at hf (h7 j)]; exact h3 j hj⟩
theorem mv_fm {S : Nat → Nat → Prop} {σ τ : am_S} {T : ftT} {X D : List Int} (h : mv σ T X D) (hf : fm S σ τ) (hn : ∀ a c, S a c → a ≠ 102 ∧ a ≠ 103 ∧ a ≠ 104 ∧ a ≠ 105 ∧ a ≠ 107 ∧ a ≠ 117 ∧ (a = 11 → c ≠ 1 ∧ c ≠ 6 ∧ c ≠ 16)) : mv τ T X D := by
  refine ⟨mt_fm h.1 hf ?_, mx_fm h.2.1 hf ?_ ?_, md_fm h.2.2 hf ?_⟩
  · intro a c h1 h2
    have := hn a c h2
    unfold mtS at h1
    omega
  · intro q
    have := hn _ _ q
    omega
  · intro c q
    have := hn _ _ q
    omega
  · intro a c h1 h2
    have := hn a c h2
    unfold mdS at h1
    omega
theorem ca_type {σ : am_S} {T : ftT} {X D : List Int} {L : Nat → List pfN} {J : am_S → Prop} {w : Int64} (hc : cv σ T X D L) (hm : mv σ T X D) (hw : wv T X D) (hJ : aJ σ T L J) : lc_A 1124 781508 [am_l w] σ J := by
  have hl := hc.2.1.2.1
  have key : ∀ Y τ, rt τ Y → fr rtS σ τ → (∀ c ∈ Y, ty_in c) → ∀ υ, mx υ Y → fm mxS τ υ → J υ := by
    intro Y τ h1 h2 hin υ h3 h4
    have hm2 := mv_c hm (cE_fr h2 rtS_c)
    refine hJ υ T Y D (cv_m (cv_g hc h2 (fun a b h => by unfold rtS at h; omega) (ft_fr hc.1 h2 (fun a b h5 h6 => by unfold ftS at h5; unfold rtS at h6; omega)) h1 (sq_fr hc.2.2.1 h2 (by unfold rtS; omega) (by unfold rtS; omega))) (mE_fm h4 mxS_m)) ⟨mt_fm hm2.1 h4 (fun a c h5 h6 => by unfold mtS at h5; unfold mxS at h6; omega), h3, md_fm hm2.2.2 h4 (fun a c h5 h6 => by unfold mdS at h5; unfold mxS at h6; omega)⟩ ⟨hw.1, hw.2.1, hin, hw.2.2.2⟩ List.take_length (af_fr h2 rtS_c h4 mxS_m (fun a c h => by unfold mxS at h; omega))
  refine sp_pw_type (d := 158) hc.2.1 (fun Y hY τ a1 a2 => ⟨1, rfl, cE_K (cE_fr a2 rtS_c), ?_⟩) (fun hY τ a1 a2 => ⟨0, rfl, cE_K (cE_fr a2 rtS_c), ?_⟩)
  · refine sp_m_type (mv_c hm (cE_fr a2 rtS_c)).2.1 (fun Y2 hY2 υ b1 b2 => ?_) (fun h => by rw [hY] at h; cases h)
    rw [hY] at hY2
    cases hY2
    exact ⟨rfl, key Y τ a1 a2 (ty_run_in hl hw.2.2.1 hY) υ b1 b2⟩
  · refine sp_m_type (mv_c hm (cE_fr a2 rtS_c)).2.1 (fun Y2 hY2 υ b1 b2 => by rw [hY] at hY2; cases hY2) (fun _ υ b1 b2 => ⟨rfl, key X τ a1 a2 hw.2.2.1 υ b1 b2⟩)
theorem ca_same {σ : am_S} {T : ftT} {X D : List Int} {L : Nat → List pfN} {J : am_S → Prop} (hc : cv σ T X D L) (hm : mv σ T X D) (hw : wv T X D) (hJ : aJ σ T L J) : J (am_set σ 11 0 0 0) :=
  hJ _ T X D (cv_m hc (mE_fm (fm_th σ 0) thS_m)) (mv_fm hm (fm_th σ 0) (fun a c h => by unfold thS at h; omega)) hw List.take_length (af_fr (fr_refl rtS σ) rtS_c (fm_th σ 0) thS_m (fun a c h => by unfold thS at h; omega))
theorem ca_err {σ : am_S} {T : ftT} {X D : List Int} {L : Nat → List pfN} {J : am_S → Prop} (hb : 0 < σ.2.2.2) (hc : cv σ T X D L) (hm : mv σ T X D) (hw : wv T X D) (hJ : aJ σ T L J) (v : Int) : J (am_set (ex σ) 11 0 0 v) :=
  hJ _ T X D (cv_m (cv_ex hc) (mE_fm (fm_th (ex σ) v) thS_m)) (mv_fm (mv_c hm (cE_ex σ)) (fm_th (ex σ) v) (fun a c h => by unfold thS at h; omega)) hw List.take_length (af_ex hb (fm_th (ex σ) v) thS_m (fun a c h => by unfold thS at h; omega))
theorem ca_ok {σ : am_S} {T : ftT} {X D : List Int} {L : Nat → List pfN} {J : am_S → Prop} (hc : cv σ T X D L) (hm : mv σ T X D) (hw : wv T X D) (hJ : aJ σ T L J) (w : Int64) : J (am_set (am_setL σ 70 0 w) 11 0 0 0) :=
  hJ _ T X D (cv_m (cv_out hc w) (mE_fm (fm_th _ 0) thS_m)) (mv_fm (mv_c hm (cE_out σ w)) (fm_th _ 0) (fun a c h => by unfold thS at h; omega)) hw List.take_length (af_out (fr_refl rtS σ) rtS_c (fm_th _ 0) thS_m (fun a c h => by unfold thS at h; omega))
theorem ca_formulas {σ : am_S} {T : ftT} {X D : List Int} {L : Nat → List pfN} {J : am_S → Prop} (hc : cv σ T X D L) (hm : mv σ T X D) (hw : wv T X D) (hJ : aJ σ T L J) : lc_A 50210 748578 [] σ J :=
  sp_pw_formulas (d := 158) hc.1 ⟨_, rfl, cE_K (cE_refl σ), sp_m_formulas hm.1 ⟨rfl, ca_same hc hm hw hJ⟩⟩
theorem ca_draft {σ : am_S} {T : ftT} {X D : List Int} {L : Nat → List pfN} {J : am_S → Prop} {i : Int} (hc : cv σ T X D L) (hm : mv σ T X D) (hw : wv T X D) (hJ : aJ σ T L J) : lc_A 132164 1092676 [am_i i] σ J :=
  sp_pw_draft (d := 158) hc.2.2.1 ⟨_, rfl, cE_K (cE_refl σ), sp_m_draft hm.2.2 ⟨rfl, ca_same hc hm hw hJ⟩⟩
theorem ca_take {σ : am_S} {T : ftT} {X D : List Int} {L : Nat → List pfN} {J : am_S → Prop} {i : Int} (hc : cv σ T X D L) (hm : mv σ T X D) (hw : wv T X D) (hJ : aJ σ T L J) : lc_A 115812 1076324 [am_i i] σ J := by
  have hpos : ∀ x ∈ D, 0 ≤ x := fun x hx => (hw.2.2.2.2.1 x hx).1
  refine sp_pw_take (d := 150) hc.2.2.1 hpos (fun hi τ a1 a2 => ⟨_, rfl, cE_K (cE_fr a2 (sqS_c 0)), ?_⟩) (fun hi => ⟨_, rfl, cE_K (cE_refl σ), ?_⟩)
  · have hm2 := mv_c hm (cE_fr a2 (sqS_c 0))
    refine sp_m_take (d := 157) hm2.2.2 hpos (fun _ υ b0 b1 b2 => ⟨rfl, ?_⟩) (fun h => absurd h hi)
    refine hJ υ T X (D.erase (li_at D i)) (cv_m (cv_g hc a2 (fun a b h => by unfold sqS at h; omega) (ft_fr hc.1 a2 (fun a b h5 h6 => by unfold ftS at h5; unfold sqS at h6; omega)) (rt_fr hc.2.1 a2 (by unfold sqS; omega) (by unfold sqS; omega)) a1) (mE_fm b2 mpS_m)) ⟨mt_fm hm2.1 b2 (fun a c h5 h6 => by unfold mtS at h5; unfold mpS at h6; omega), mx_fm hm2.2.1 b2 (by unfold mpS; omega) (fun c => by unfold mpS; omega), b1⟩ ⟨hw.1, hw.2.1, hw.2.2.1, er_sorted _ hw.2.2.2.1, fun x hx => hw.2.2.2.2.1 x (List.mem_of_mem_erase hx), Int.le_trans (ft_lvs_er hw.1.1 _ D) hw.2.2.2.2.2.1, hw.2.2.2.2.2.2⟩ List.take_length (af_fr a2 (sqS_c 0) b2 mpS_m (fun a c h => by unfold mpS at h; omega))
  · exact sp_m_take (d := 157) hm.2.2 hpos (fun h => absurd hi h) (fun _ => ⟨rfl, ca_same hc hm hw hJ⟩)
theorem ca_about {σ : am_S} {T : ftT} {X D : List Int} {L : Nat → List pfN} {J : am_S → Prop} {n w : Int} (hb : 0 < σ.2.2.2) (hc : cv σ T X D L) (hm : mv σ T X D) (hw : wv T X D) (hJ : aJ σ T L J) : lc_B 66662 765030 [(1, 1)] [am_i n, am_i w] σ J := by
  refine sp_pw_about (d := 149) hb hc.1 (fun hn => lb_ok (cE_K (cE_refl σ)) ?_) (fun hn => lb_err rfl (by decide) (cE_K (cE_ex σ)) ?_)
  · exact sp_m_about (d := 157) (mv_c hm (cE_out σ _)).1 hw.2.1 hw.1.2.2.2 (fun _ => ⟨rfl, set_same .., mE_fm (fm_th _ 0) thS_m, ca_ok hc hm hw hJ _⟩) (fun h => absurd hn h)
  · exact sp_m_about (d := 157) (mv_c hm (cE_ex σ)).1 hw.2.1 hw.1.2.2.2 (fun h => absurd h hn) (fun _ => ⟨0, rfl, set_same .., ca_err hb hc hm hw hJ 1⟩)
theorem ca_put {σ : am_S} {T : ftT} {X D : List Int} {L : Nat → List pfN} {J : am_S → Prop} {n : Int} (hb : 0 < σ.2.2.2) (hc : cv σ T X D L) (hm : mv σ T X D) (hw : wv T X D) (hJ : aJ σ T L J) : lc_B 99396 1059908 [(1, 1), (2, 2)] [am_i n] σ J := by
  obtain ⟨w1, w2, w3, w4, w5, w6⟩ := hw
  have hmp : ∀ a c, mpS a c → a < 118 ∨ (125 < a ∧ a ≠ 129) := fun a c h => by unfold mpS at h; omega
  refine sp_pw_put (d := 148) hb hc.1 w1.1 hc.2.2.1 w4 (fun hn => lb_err rfl (by decide) (cE_K (cE_ex σ)) ?_) (fun hn hf => lb_err rfl (by decide) (cE_K (cE_ex σ)) ?_) (fun hn h1 h2 τ a1 a2 => lb_ok (cE_K (cE_fr a2 (sqS_c 0))) ?_)
  · have hm2 := mv_c hm (cE_ex σ)
    exact sp_m_put (d := 156) hm2.1 w2 w1.1 hm2.2.2 w4 w5 (fun _ => ⟨0, rfl, set_same .., ca_err hb hc hm ⟨w1, w2, w3, w4, w5, w6⟩ hJ 1⟩) (fun h => absurd h hn) (fun h => absurd h hn)
  · have hm2 := mv_c hm (cE_ex σ)
    refine sp_m_put (d := 156) hm2.1 w2 w1.1 hm2.2.2 w4 w5 (fun h => absurd hn h) (fun _ _ υ b0 b1 b2 => ⟨0, rfl, b0, ?_⟩) (fun _ h1 h2 => absurd hf (by omega))
    exact hJ υ T X D (cv_m (cv_ex hc) (mE_fm b2 mpS_m)) ⟨mt_fm hm2.1 b2 (fun a c h5 h6 => by unfold mtS at h5; unfold mpS at h6; omega), mx_fm hm2.2.1 b2 (by unfold mpS; omega) (fun c => by unfold mpS; omega), b1⟩ ⟨w1, w2, w3, w4, w5, w6⟩ List.take_length (af_ex hb b2 mpS_m hmp)
  · have hm2 := mv_c hm (cE_trans (cE_fr a2 (sqS_c 0)) (cE_out τ (am_i2l ((D.length : Int) + 1))))
    refine sp_m_put (d := 156) hm2.1 w2 w1.1 hm2.2.2 w4 w5 (fun h => absurd hn h) (fun _ h => absurd h (by omega)) (fun _ _ _ υ b0 b1 b2 => ⟨rfl, b0, mE_fm b2 mpS_m, ?_⟩)
    have hc2 := cv_g hc a2 (fun a b h => by unfold sqS at h; omega) (ft_fr hc.1 a2 (fun a b h5 h6 => by unfold ftS at h5; unfold sqS at h6; omega)) (rt_fr hc.2.1 a2 (by unfold sqS; omega) (by unfold sqS; omega)) a1
    refine hJ υ T X (li_ins n D) (cv_m (cv_out hc2 _) (mE_fm b2 mpS_m)) ⟨mt_fm hm2.1 b2 (fun a c h5 h6 => by unfold mtS at h5; unfold mpS at h6; omega), mx_fm hm2.2.1 b2 (by unfold mpS; omega) (fun c => by unfold mpS; omega), b1⟩ ⟨w1, w2, w3, li_ins_sorted w4, fun x hx => ?_, by rw [ft_lvs_ins]; omega, w6.2⟩ List.take_length (af_out a2 (sqS_c 0) b2 mpS_m hmp)
    rcases li_ins_mem.mp hx with rfl | hx
    · exact hn
    · exact w5 x hx
theorem ca_make {σ : am_S} {T : ftT} {X D : List Int} {L : Nat → List pfN} {J : am_S → Prop} {s a b : Int} (hb : 0 < σ.2.2.2) (hc : cv σ T X D L) (hm : mv σ T X D) (hw : wv T X D) (hJ : aJ σ T L J) : lc_B 33960 732328 [(1, 1), (2, 2)] [am_i s, am_i a, am_i b] σ J := by
  have hmk : ∀ a c, mkS a c → a < 118 ∨ (125 < a ∧ a ≠ 129) := fun a c h => by unfold mkS mtS thS at h; omega
  have good : ∀ (m : Int) (T' : ftT) (τ : am_S) (hn : (0 ≤ a ∧ a < 20 + (T.length : Int)) ∧ (0 ≤ b ∧ b < 20 + (T.length : Int)) ∧ (0 ≤ s ∧ s < 4)), ft_num T s a b = some (m, T') → ft τ T' → fr ftS σ τ → am_M 159 732328 [am_r 11 0, am_i s, am_i a, am_i b] (am_setL τ 70 0 (am_i2l m)) (fun o υ => o = .inl (some (am_i m)) ∧ υ.1 11 0 0 = 0 ∧ mE (am_setL τ 70 0 (am_i2l m)) υ ∧ J υ) := by
    intro m T' τ hn he h1 h2
    have hm2 := mv_c hm (cE_trans (cE_fr h2 ftS_c) (cE_out τ (am_i2l m)))
    refine sp_m_make (d := 157) hm2.1 hw.1 hw.2.1 (fun h => absurd hn h) (fun _ h => by rw [he] at h; cases h) (fun _ m2 T2 he2 υ b0 b1 b2 => ?_)
    rw [he] at he2
    cases he2
    obtain ⟨g1, g2, g3, g4⟩ := ft_num_wf hw.1 hn.2.2 hn.1 hn.2.1 he
    refine ⟨rfl, b0, mE_fm b2 mkS_m, ?_⟩
    exact hJ υ T' X D (cv_m (cv_out (cv_g hc h2 (fun a b h => by unfold ftS at h; omega) h1 (rt_fr hc.2.1 h2 (by unfold ftS; omega) (by unfold ftS; omega)) (sq_fr hc.2.2.1 h2 (by unfold ftS; omega) (by unfold ftS; omega))) _) (mE_fm b2 mkS_m)) ⟨b1, mx_fm hm2.2.1 b2 (by unfold mkS mtS thS; omega) (fun c => by unfold mkS mtS thS; omega), md_fm hm2.2.2 b2 (fun a c h5 h6 => by unfold mdS at h5; unfold mkS mtS thS at h6; omega)⟩ (wv_pre hw g1 (ft_num_pr hw.2.1 hn.2.2 he) (ft_num_sm hw.2.2.2.2.2.2 hw.1 hw.2.1 hn.1 hn.2.1 he) g3 g4) g4 (af_out h2 ftS_c b2 mkS_m hmk)
  refine sp_pw_make (d := 149) hb hc.1 hw.1.1 hw.1.2.1 (fun hn => lb_err rfl (by decide) (cE_K (cE_ex σ)) ?_) (fun hn j hj h1 h2 => lb_ok (cE_K (cE_refl σ)) ?_) (fun hn h1 h2 => lb_err rfl (by decide) (cE_K (cE_ex σ)) ?_) (fun hn h1 h2 h3 τ a1 a2 => lb_ok (cE_K (cE_fr a2 ftS_c)) ?_)
  · have hm2 := mv_c hm (cE_ex σ)
    exact sp_m_make (d := 157) hm2.1 hw.1 hw.2.1 (fun _ => ⟨0, rfl, set_same .., ca_err hb hc hm hw hJ 1⟩) (fun h => absurd h hn) (fun h => absurd h hn)
  · exact good _ T σ hn (ft_num_at hj h1 h2) hc.1 (fr_refl _ _)
  · have hm2 := mv_c hm (cE_ex σ)
    have he : ft_num T s a b = none := by rw [ft_num_no h1, if_pos h2]
    refine sp_m_make (d := 157) hm2.1 hw.1 hw.2.1 (fun h => absurd hn h) (fun _ _ υ b0 b1 b2 => ⟨0, rfl, b0, ?_⟩) (fun _ m T' h => by rw [he] at h; cases h)
    exact hJ υ T X D (cv_m (cv_ex hc) (mE_fm b2 mkS_m)) ⟨b1, mx_fm hm2.2.1 b2 (by unfold mkS mtS thS; omega) (fun c => by unfold mkS mtS thS; omega), md_fm hm2.2.2 b2 (fun a c h5 h6 => by unfold mdS at h5; unfold mkS mtS thS at h6; omega)⟩ hw List.take_length (af_ex hb b2 mkS_m hmk)
  · exact good _ _ τ hn (by rw [ft_num_no h1, if_neg (by omega)]) a1 a2
