/-! The call of written -/
theorem ca_written {σ : am_S} {T : ftT} {X D : List Int} {L : Nat → List pfN} {J : am_S → Prop} {n k : Int} (hb : 0 < σ.2.2.2) (hc : cv σ T X D L) (hm : mv σ T X D) (hw : wv T X D) (hJ : aJ σ T L J) : lc_B 83046 912486 [(1, 1)] [am_i n, am_i k] σ J := by
  have hw0 := hw
  obtain ⟨⟨w1, w2, w3, w4⟩, wp, _, _, _, _, ws⟩ := hw0
  have hsp : ∀ a c, (thS a c ∨ spS a c) → moK a := fun a c h => by unfold thS spS at h; unfold moK; omega
  have hsn : ∀ a c, (thS a c ∨ spS a c) → a < 118 ∨ (125 < a ∧ a ≠ 129) := fun a c h => by unfold thS spS at h; omega
  refine sp_pw_written (d := 138) hb w4 hc.1 (fun n hn x hx => (wr_len ws w1 w4 8 n (by have := (ft_lv_le w1 n).2; omega) hn).2 x hx) (fun hn => lb_err rfl (by decide) (cE_K (cE_ex σ)) ?_) (fun hn τ X' a1 a2 => lb_ok (cE_K (cE_fr a2 wrS_c)) ?_)
  · exact sp_m_written (d := 156) (mv_c hm (cE_ex σ)).1 wp w1 w4 ws (fun _ => ⟨0, rfl, set_same .., ca_err hb hc hm hw hJ 1⟩) (fun h => absurd h hn)
  · have hE := cE_trans (cE_fr a2 wrS_c) (cE_out τ (am_i2l (wr_ch T n k)))
    refine sp_m_written (d := 156) (mv_c hm hE).1 wp w1 w4 ws (fun h => absurd hn h) (fun _ υ b1 b2 => ⟨rfl, b1, mE_fm b2 hsp, ?_⟩)
    have hc2 : cv τ T X D L := cv_g hc a2 (fun a b h => by unfold wrS at h; omega) (ft_fr hc.1 a2 (fun a b h5 h6 => by unfold ftS at h5; unfold wrS at h6; omega)) (rt_fr hc.2.1 a2 (by unfold wrS; omega) (by unfold wrS; omega)) (sq_fr hc.2.2.1 a2 (by unfold wrS; omega) (by unfold wrS; omega))
    exact hJ υ T X D (cv_m (cv_out hc2 _) (mE_fm b2 hsp)) (mv_fm (mv_c hm hE) b2 (fun a c h => by unfold thS spS at h; omega)) hw List.take_length (af_out a2 wrS_c b2 hsp hsn)
