def e_Em_bar_f : en_T := ([(2, 0, 0, [1]), (2, 0, 0, [3]), (2, 0, 0, [5])], none, false, 10, 0, 0, [], [], (712230049778071776583401465242514497556447232, [(1, 0), (1, 5), (1, 6), (1, 7), (1, 15), (1, 16), (1, 17), (1, 18), (5, 2), (5, 3), (149, 5), (149, 6), (149, 13)], [(20, [3, 4, 1, 2], [62, 887]), (20, [2], [50, 1, 0, 0, 1, 3, 2, 0, 0, 0, 0])], [(20, [3, 4, 2], [62, 199]), (20, [2], [50, 1, 0, 0, 1, 3, 2, 0, 0, 0, 0])], [(2, 0, 0, [12]), (0, 0, 3, [])]))
theorem cf_Em_bar {l : Launch} {D : va_G} {kA : Nat → ClassId} (h_Em_bar : ∀ kB, ct_ok PRD l D kB GG y_Em_bar z_Em_bar e_Em_bar) : ct_ok PRD l D kA GG y_Em_bar z_Em_bar e_Em_bar_f := by
  have hG := ro_none (G := GG) (by decide +kernel)
  refine ct_frame3 h_Em_bar rfl rfl rfl rfl rfl rfl rfl rfl rfl (fun t ht => by cases ht) hG (fun ta ws av gv hv hD hth hag hgv hhv hpr => ?_)
  obtain ⟨x0, x1, x2, rfl⟩ := ln_3 (ag_lenP hag)
  obtain rfl := ln_0 (gv_lenP hgv)
  obtain ⟨vH, vG, rfl⟩ := ln_2 (ag_lenP hhv)
  have tH : tv_ok ta (2, 0, 0, [12]) vH := hhv.1
  have t0 : tv_ok ta (2, 0, 0, [1]) x0 := hag.1
  have t1 : tv_ok ta (2, 0, 0, [3]) x1 := hag.2.1
  have t2 : tv_ok ta (2, 0, 0, [5]) x2 := hag.2.2.1
  obtain ⟨o0, ro0, rfl, ho0, hq0⟩ := tv_ref t0 rfl
  obtain rfl := List.mem_singleton.mp hq0
  obtain ⟨o1, ro1, rfl, ho1, hq1⟩ := tv_ref t1 rfl
  obtain rfl := List.mem_singleton.mp hq1
  obtain ⟨o2, ro2, rfl, ho2, hq2⟩ := tv_ref t2 rfl
  obtain rfl := List.mem_singleton.mp hq2
  obtain ⟨aH, rh, rfl, hH, hH2⟩ := tv_ref tH rfl
  obtain rfl := List.mem_singleton.mp hH2
  have hH : ta (v_ad (Value.ref aH)) = some rH := hH
  have hpr_zq : ∀ f ∈ [(20, [3, 4, 1, 2], [62, 887]), (20, [2], [50, 1, 0, 0, 1, 3, 2, 0, 0, 0, 0])], fc_1 PRD f ws (([Value.ref o0, Value.ref o1, Value.ref o2] ++ []) ++ [Value.ref aH, vG]) := hpr
  obtain ⟨pf0, hpr_zq⟩ := List.forall_mem_cons.mp hpr_zq
  obtain ⟨pf1, hpr_zq⟩ := List.forall_mem_cons.mp hpr_zq
  have hW : WQF 887 [.ref aH, vG, .ref o1, .ref o2] ws := pf0.2
  obtain ⟨hg0, hg1, hX0, hw1, hw2, hw3, _, hwz, hl⟩ := hW
  have hg : (v_iv vG).toNat < 4 := by omega
  have hPl : HP ws (.ref aH) (v_iv vG).toNat := ⟨hw1 (by decide), hw2 (by decide), hw3 (by decide)⟩
  have hoo : o1 = pO ws (.ref aH) 0 (v_iv vG).toNat := hl.1.resolve_left (by decide)
  have hoo2 : o2 = pO ws (.ref aH) 2 (v_iv vG).toNat := hl.2.1.resolve_left (by decide)
  have hc : fr_chk GG S0 [0, 2] = true := by decide +kernel
  have hce : em_chk GG = true := by decide +kernel
  have c1 : hs_chk GG = true := by decide +kernel
  have c6 : ar_chk GG = true := by decide +kernel
  have hgH : ∃ gg, GG[rH]? = some gg := ⟨GG_12, rfl⟩
  have hr0 : GG[1]? = some GG_1 := rfl
  have hr1 : GG[3]? = some GG_3 := rfl
  have hr2 : GG[5]? = some GG_5 := rfl
  obtain ⟨pr, rp, he1, hp1, hp2⟩ := tv_ref (fd_at hD hth ho0 hr0 (k := 1) rfl (by decide)).1 rfl
  obtain rfl := List.mem_singleton.mp hp2
  obtain ⟨P, hP⟩ : ∃ P, P = em_P kA ta ws ([0, 2].map (fun f => pO ws (.ref aH) f (v_iv vG).toNat) ++ [o0, pr]) o0 pr (pO ws (.ref aH) 2 (v_iv vG).toNat) := ⟨_, rfl⟩
  have hos : ∀ o ∈ [0, 2].map (fun f => pO ws (.ref aH) f (v_iv vG).toNat), ∃ r, ta o = some r ∧ ob_S GG S0 r = true := fun o ho => by
    rcases List.mem_cons.mp ho with q | ho
    · exact ⟨3, by rw [q]; show ta (pO ws (.ref aH) 0 (v_iv vG).toNat) = some 3; rw [← hoo]; exact ho1, by decide +kernel⟩
    · have q := List.mem_singleton.mp ho
      exact ⟨5, by rw [q]; show ta (pO ws (.ref aH) 2 (v_iv vG).toNat) = some 5; rw [← hoo2]; exact ho2, by decide +kernel⟩
  have hz : pz_ok P ws (.ref aH) (v_iv vG).toNat [0, 2] ta GG := by rw [hP]; exact em_pz hD hth hG hH hgH hc hce hX0.1 hg (by decide) ho0 hp1 he1
  obtain ⟨kB, tt, hk, hT, hL, hcase⟩ := em_th hD hth hG hce hos ⟨GG_5, rfl, by decide⟩ (by decide +kernel) (by decide +kernel) ho0 hp1 he1 (List.mem_cons_of_mem _ List.mem_cons_self) hP
  have hP1 : P o1 = true := by rw [hoo]; exact hz.2.2.2 0 (by decide)
  have hP2 : P o2 = true := by rw [hoo2]; exact hz.2.2.2 2 (by decide)
  have hP0 : P o0 = true := by rw [hP]; exact (em_self hD hth hce ho0 hp1).1
  have hf1 : ∀ k d, w_fd ws o1 k = .ref d → P d = true := fun k d hd => by
    obtain ⟨t, r, ht, hdr, hm⟩ := fd_ref hD hth ho1 hr1 (by decide) hd
    rcases em_ref (ng := pO ws (.ref aH) 2 (v_iv vG).toNat) hD hth hG hce hos ⟨GG_5, rfl, by decide⟩ (by decide +kernel) ho0 hp1 he1 (List.mem_append_left _ (by rw [hoo]; exact List.mem_cons_self)) ho1 hr1 ht hd hdr hm with ⟨z, _⟩ | ⟨z, _⟩
    · rw [z, ho0] at ho1; exact absurd (Option.some.inj ho1) (by decide)
    · rw [hP]; exact z
  have hf2 : ∀ k d, w_fd ws o2 k = .ref d → P d = true := fun k d hd => by
    obtain ⟨t, r, ht, hdr, hm⟩ := fd_ref hD hth ho2 hr2 (by decide) hd
    rcases em_ref (ng := pO ws (.ref aH) 2 (v_iv vG).toNat) hD hth hG hce hos ⟨GG_5, rfl, by decide⟩ (by decide +kernel) ho0 hp1 he1 (List.mem_append_left _ (by rw [hoo2]; exact List.mem_cons_of_mem _ List.mem_cons_self)) ho2 hr2 ht hd hdr hm with ⟨z, _⟩ | ⟨z, _⟩
    · rw [z, ho0] at ho2; exact absurd (Option.some.inj ho2) (by decide)
    · rw [hP]; exact z
  have rf : ∀ o r, ta o = some r → (∃ g, GG[r]? = some g) → P o = true → tv_ok tt (2, 0, 0, [r]) (Value.ref o) := fun o r h1 h2 h3 => Or.inr (Or.inr (Or.inl ⟨rfl, o, r, rfl, hL o r h1 h2 h3, List.mem_singleton.mpr rfl⟩))
  have gi : ob_eq (pF 0) (pA 0) o1 ws (w_in P ws) := ob_in hP1 (fun k _ d hd => hf1 k d hd)
  refine ⟨P, kB, tt, [], [], hk, hT, hL, hcase, ⟨rf o0 1 ho0 ⟨_, hr0⟩ hP0, rf o1 3 ho1 ⟨_, hr1⟩ hP1, rf o2 5 ho2 ⟨_, hr2⟩ hP2, trivial⟩, trivial, trivial, ?_, ?_⟩
  · have hGi : HG (w_in P ws) o1 := HG_eq gi (by rw [hoo]; exact hPl.1)
    have hn : w_fd (w_in P ws) o1 16 = .null ∨ ∃ d, w_fd (w_in P ws) o1 16 = .ref d := by rw [w_fd_in hP1]; exact fd_null hD hth ho1 hr1 (by decide) (k := 16) rfl rfl
    obtain ⟨q1, q2, q3, q4⟩ := GT_of (x := Value.ref o1) rfl hGi hn
    show ∀ f ∈ [(20, [1], [60, 2, 2, 596, 0, 1, 7, 8]), (20, [2], [50, 1, 0, 3, 1, 3, 2, 0, 3, 0, 0])], fc_1 PRD f (w_in P ws) (([Value.ref o0, Value.ref o1, Value.ref o2] ++ []) ++ [])
    refine al_cons ⟨(show ∀ n ∈ [1], n < 3 by decide), q1⟩ ?_
    refine al_cons ⟨(show ∀ n ∈ [2], n < 3 by decide), (show w_fi (w_in P ws) (Value.ref o2) 3 = 0 by show v_iv (w_fd (w_in P ws) o2 3) = 0; rw [w_fd_in hP2, hoo2]; exact ((hwz (by decide)).2 (by decide)).2.2)⟩ ?_
    exact al_nil
  · intro u tb r hle hu htb le1 hkp hDj hpo
    show ∀ f ∈ [(20, [3, 4, 2], [62, 199]), (20, [2], [50, 1, 0, 0, 1, 3, 2, 0, 0, 0, 0])], fc_1 PRD f (w_out P ws ++ u.2) ((([Value.ref o0, Value.ref o1, Value.ref o2] ++ []) ++ [Value.ref aH, vG]) ++ r.toList)
    have hDu := vd_right hDj
    obtain ⟨i1, i2⟩ := pz_ot hD hth c1 c6 hH hgH hX0.1 hg hz hDj
    have hx := pz_HX hD hth c1 c6 hH hgH hg hz hX0 hDj hle hu
    obtain ⟨e1, e2, _⟩ := pz_in hD hth c1 c6 hH hgH hX0.1 hg hz hDj hle hu (f := 0) (by omega) (by decide)
    obtain ⟨m1, m2, _⟩ := pz_in hD hth c1 c6 hH hgH hX0.1 hg hz hDj hle hu (f := 2) (by omega) (by decide)
    rw [← hoo] at e1 e2
    rw [← hoo2] at m1 m2
    have gu : ob_eq (pF 0) (pA 0) o1 (w_in P ws) u.2 := kp_obC (vd_filter hD (fun _ _ _ => trivial)) hDu hT hkp (hL o1 3 ho1 ⟨_, hr1⟩ hP1) (by decide +kernel)
    have gw := ob_trans (fun k hk => ar_in (f := 0) (by omega) hk) (ob_trans (fun k hk => ar_in (f := 0) (by omega) hk) gi gu) e2
    have hG1 : HG (w_out P ws ++ u.2) (pO (w_out P ws ++ u.2) (.ref aH) 0 (v_iv vG).toNat) := by rw [pO_eq i1 (f := 0) (by omega) hg, ← hoo]; exact HG_eq gw (by rw [hoo]; exact hPl.1)
    have hF1 : HF (w_out P ws ++ u.2) (pO (w_out P ws ++ u.2) (.ref aH) 0 (v_iv vG).toNat) (pO (w_out P ws ++ u.2) (.ref aH) 1 (v_iv vG).toNat) := by rw [pO_eq i1 (f := 0) (by omega) hg, pO_eq i1 (f := 1) (by omega) hg, ← hoo]; exact HF_eq gw (i2 1 (by omega) _ hg (Or.inr (by decide))) (by rw [hoo]; exact hPl.2.1)
    have n0 : w_fd u.2 o2 0 = w_fd (w_in P ws) o2 0 := kp_fd (vd_filter hD (fun _ _ _ => trivial)) hDu hT hkp (hL o2 5 ho2 ⟨_, hr2⟩ hP2) (by decide +kernel)
    rw [w_fd_in hP2] at n0
    have zp : w_fi ws (Value.ref o2) 0 = 0 := pf1.2
    have np : fI (w_out P ws ++ u.2) o2 0 = 0 := by
      rw [fI_eq m2 (k := 0) (by decide)]
      show v_iv (w_fd u.2 o2 0) = 0
      rw [n0]; exact zp
    have lk : o2 = pO (w_out P ws ++ u.2) (.ref aH) 2 (v_iv vG).toNat := by rw [pO_eq i1 (f := 2) (by omega) hg]; exact hoo2
    refine al_cons (fc_ext ⟨(show ∀ n ∈ [3, 4, 2], n < 5 by decide), ?_⟩) (al_cons (fc_ext ⟨(show ∀ n ∈ [2], n < 5 by decide), (show w_fi (w_out P ws ++ u.2) (Value.ref o2) 0 = 0 from np)⟩) al_nil)
    show WQF 199 [.ref aH, vG, .ref o2] (w_out P ws ++ u.2)
    refine ⟨hg0, hg1, hx, fun _ => hG1, fun _ => hF1, fun _ => ?_, fun q => absurd q (by decide), fun q => absurd q (by decide), ⟨Or.inr lk, trivial⟩⟩
    rw [← lk]
    exact ⟨fun q => by rw [np] at q; exact absurd q (by decide), fun q => by rw [np] at q; exact absurd q (by decide)⟩
def e_Em_embed_at_gn_f : en_T := ([(2, 0, 0, [1]), (2, 0, 0, [5])], some (0, 0, 1, []), false, 9, 0, 0, [], [], (599627206528856207757672448, [(1, 0), (1, 5), (1, 6), (1, 7), (1, 15), (1, 16), (1, 17), (1, 18), (5, 13)], [(20, [2, 3, 1], [62, 243]), (20, [1], [60, 2, 3, 595, 5, 6, 7, 8, 9])], [(20, [2, 3, 1], [62, 243]), (20, [1, 4], [60, 2, 3, 632, 5, 6, 9, 12, 16])], [(2, 0, 0, [12]), (0, 0, 3, [])]))
theorem cf_Em_embed_at_gn {l : Launch} {D : va_G} {kA : Nat → ClassId} (h_Em_embed_at_gn : ∀ kB, ct_ok PRD l D kB GG y_Em_embed_at_gn z_Em_embed_at_gn e_Em_embed_at_gn) : ct_ok PRD l D kA GG y_Em_embed_at_gn z_Em_embed_at_gn e_Em_embed_at_gn_f := by
  have hG := ro_none (G := GG) (by decide +kernel)
  refine ct_frame3 h_Em_embed_at_gn rfl rfl rfl rfl rfl rfl rfl rfl rfl (fun t ht => by cases ht; rfl) hG (fun ta ws av gv hv hD hth hag hgv hhv hpr => ?_)
  obtain ⟨x0, x1, rfl⟩ := ln_2 (ag_lenP hag)
  obtain rfl := ln_0 (gv_lenP hgv)
  obtain ⟨vH, vG, rfl⟩ := ln_2 (ag_lenP hhv)
  have tH : tv_ok ta (2, 0, 0, [12]) vH := hhv.1
  have t0 : tv_ok ta (2, 0, 0, [1]) x0 := hag.1
  have t1 : tv_ok ta (2, 0, 0, [5]) x1 := hag.2.1
  obtain ⟨o0, ro0, rfl, ho0, hq0⟩ := tv_ref t0 rfl
  obtain rfl := List.mem_singleton.mp hq0
  obtain ⟨o1, ro1, rfl, ho1, hq1⟩ := tv_ref t1 rfl
  obtain rfl := List.mem_singleton.mp hq1
  obtain ⟨aH, rh, rfl, hH, hH2⟩ := tv_ref tH rfl
  obtain rfl := List.mem_singleton.mp hH2
  have hH : ta (v_ad (Value.ref aH)) = some rH := hH
  have hpr_zq : ∀ f ∈ [(20, [2, 3, 1], [62, 243]), (20, [1], [60, 2, 3, 595, 5, 6, 7, 8, 9])], fc_1 PRD f ws (([Value.ref o0, Value.ref o1] ++ []) ++ [Value.ref aH, vG]) := hpr
  obtain ⟨pf0, hpr_zq⟩ := List.forall_mem_cons.mp hpr_zq
  obtain ⟨pf1, hpr_zq⟩ := List.forall_mem_cons.mp hpr_zq
  have hW : WQF 243 [.ref aH, vG, .ref o1] ws := pf0.2
  obtain ⟨hg0, hg1, hX0, hw1, hw2, _, _, hwz, hl⟩ := hW
  have hZ := (hwz (by decide)).2 (by decide)
  have hg : (v_iv vG).toNat < 4 := by omega
  have hoo : o1 = pO ws (.ref aH) 2 (v_iv vG).toNat := hl.1.resolve_left (by decide)
  have hc : fr_chk GG S0 [2] = true := by decide +kernel
  have hce : em_chk GG = true := by decide +kernel
  have c1 : hs_chk GG = true := by decide +kernel
  have c6 : ar_chk GG = true := by decide +kernel
  have hgH : ∃ gg, GG[rH]? = some gg := ⟨GG_12, rfl⟩
  have hr0 : GG[1]? = some GG_1 := rfl
  have hr1 : GG[5]? = some GG_5 := rfl
  obtain ⟨pr, rp, he1, hp1, hp2⟩ := tv_ref (fd_at hD hth ho0 hr0 (k := 1) rfl (by decide)).1 rfl
  obtain rfl := List.mem_singleton.mp hp2
  obtain ⟨P, hP⟩ : ∃ P, P = em_P kA ta ws ([2].map (fun f => pO ws (.ref aH) f (v_iv vG).toNat) ++ [o0, pr]) o0 pr (pO ws (.ref aH) 2 (v_iv vG).toNat) := ⟨_, rfl⟩
  have hos : ∀ o ∈ [2].map (fun f => pO ws (.ref aH) f (v_iv vG).toNat), ∃ r, ta o = some r ∧ ob_S GG S0 r = true := fun o ho => by
    have q := List.mem_singleton.mp ho
    exact ⟨5, by rw [q]; show ta (pO ws (.ref aH) 2 (v_iv vG).toNat) = some 5; rw [← hoo]; exact ho1, by decide +kernel⟩
  have hz : pz_ok P ws (.ref aH) (v_iv vG).toNat [2] ta GG := by rw [hP]; exact em_pz hD hth hG hH hgH hc hce hX0.1 hg (by decide) ho0 hp1 he1
  obtain ⟨kB, tt, hk, hT, hL, hcase⟩ := em_th hD hth hG hce hos ⟨GG_5, rfl, by decide⟩ (by decide +kernel) (by decide +kernel) ho0 hp1 he1 List.mem_cons_self hP
  have hP1 : P o1 = true := by rw [hoo]; exact hz.2.2.2 2 (by decide)
  have hP0 : P o0 = true := by rw [hP]; exact (em_self hD hth hce ho0 hp1).1
  have hf1 : ∀ k t, GG_5.2.2.2.2[k]? = some t → t.1 = 2 → ∃ d, w_fd ws o1 k = .ref d ∧ P d = true := fun k t ht h2 => by
    obtain ⟨d, r, hd, hdr, hm⟩ := tv_ref (fd_at hD hth ho1 hr1 ht (by decide)).1 h2
    refine ⟨d, hd, ?_⟩
    rcases em_ref (ng := pO ws (.ref aH) 2 (v_iv vG).toNat) hD hth hG hce hos ⟨GG_5, rfl, by decide⟩ (by decide +kernel) ho0 hp1 he1 (List.mem_append_left _ (by rw [hoo]; exact List.mem_cons_self)) ho1 hr1 ht hd hdr (by unfold tv_refs; rw [if_pos (Or.inl h2)]; exact hm) with ⟨z, _⟩ | ⟨z, _⟩
    · rw [z, ho0] at ho1; exact absurd (Option.some.inj ho1) (by decide)
    · rw [hP]; exact z
  have rf : ∀ o r, ta o = some r → (∃ g, GG[r]? = some g) → P o = true → tv_ok tt (2, 0, 0, [r]) (Value.ref o) := fun o r h1 h2 h3 => Or.inr (Or.inr (Or.inl ⟨rfl, o, r, rfl, hL o r h1 h2 h3, List.mem_singleton.mpr rfl⟩))
  refine ⟨P, kB, tt, [], [], hk, hT, hL, hcase, ⟨rf o0 1 ho0 ⟨_, hr0⟩ hP0, rf o1 5 ho1 ⟨_, hr1⟩ hP1, trivial⟩, trivial, trivial, ?_, ?_⟩
  · show ∀ f ∈ [(20, [1], [60, 2, 3, 595, 5, 6, 7, 8, 9])], fc_1 PRD f (w_in P ws) (([Value.ref o0, Value.ref o1] ++ []) ++ [])
    refine al_cons (tk_part (u := ([(1, 5), (1, 6)], [(1, 7), (1, 8), (1, 9)])) rfl rfl ((al_cons hP1 (al_cons hP1 al_nil))) ((al_cons ⟨hP1, (by obtain ⟨d, hd, hd2⟩ := hf1 7 _ rfl rfl; show P (v_ad (w_fd ws o1 7)) = true; rw [hd]; exact hd2)⟩ (al_cons ⟨hP1, (by obtain ⟨d, hd, hd2⟩ := hf1 8 _ rfl rfl; show P (v_ad (w_fd ws o1 8)) = true; rw [hd]; exact hd2)⟩ (al_cons ⟨hP1, (by obtain ⟨d, hd, hd2⟩ := hf1 9 _ rfl rfl; show P (v_ad (w_fd ws o1 9)) = true; rw [hd]; exact hd2)⟩ al_nil)))) (fc_ext (fc_cut (xs := ([Value.ref o0, Value.ref o1] ++ [])) (show ∀ n ∈ [1], n < 2 by decide) pf1))) ?_
    exact al_nil
  · intro u tb r hle hu htb le1 hkp hDj hpo
    show ∀ f ∈ [(20, [2, 3, 1], [62, 243]), (20, [1, 4], [60, 2, 3, 632, 5, 6, 9, 12, 16])], fc_1 PRD f (w_out P ws ++ u.2) ((([Value.ref o0, Value.ref o1] ++ []) ++ [Value.ref aH, vG]) ++ r.toList)
    have hpo_zq : ∀ f ∈ [(20, [1, 2], [60, 2, 3, 632, 5, 6, 9, 12, 16])], fc_1 PRD f u.2 (([Value.ref o0, Value.ref o1] ++ []) ++ [] ++ r.toList) := hpo.1
    obtain ⟨po0, hpo_zq⟩ := List.forall_mem_cons.mp hpo_zq
    have hDu := vd_right hDj
    obtain ⟨va, rfl⟩ : ∃ va, r = some va := by
      cases r with
      | none => have q := po0.1 2 (by decide); have q2 : (2 : Nat) < 2 := q; omega
      | some va => exact ⟨va, rfl⟩
    obtain ⟨i1, i2⟩ := pz_ot hD hth c1 c6 hH hgH hX0.1 hg hz hDj
    have hx := pz_HX hD hth c1 c6 hH hgH hg hz hX0 hDj hle hu
    have hu1 : u.1 o1 = some 5 := hle o1 5 (t_in_of hP1 ho1) ⟨_, hr1⟩
    obtain ⟨_, m2, _⟩ := pz_in hD hth c1 c6 hH hgH hX0.1 hg hz hDj hle hu (f := 2) (by omega) (by decide)
    rw [← hoo] at m2
    have nu : ob_eq [3, 5, 6] [] o1 (w_in P ws) u.2 := kp_obC (vd_filter hD (fun _ _ _ => trivial)) hDu hT hkp (hL o1 5 ho1 ⟨_, hr1⟩ hP1) (by decide +kernel)
    have nk : ∀ k ∈ [3, 5, 6], fI (w_out P ws ++ u.2) o1 k = fI ws o1 k := fun k hk => by
      rw [fI_eq m2 (k := k) (by revert k; decide), fI_eq nu (k := k) hk]
      show v_iv (w_fd (w_in P ws) o1 k) = v_iv (w_fd ws o1 k)
      rw [w_fd_in hP1]
    rw [← hoo] at hZ
    refine al_cons ⟨(show ∀ n ∈ [2, 3, 1], n < 5 by decide), ?_⟩ (al_cons ?_ al_nil)
    · show WQF 243 [.ref aH, vG, .ref o1] (w_out P ws ++ u.2)
      refine ⟨hg0, hg1, hx, fun _ => ?_, fun _ => ?_, fun q => absurd q (by decide), fun q => absurd q (by decide), fun _ => ⟨fun q => absurd q (by decide), fun _ => ?_⟩, ⟨Or.inr (by show o1 = pO (w_out P ws ++ u.2) (.ref aH) 2 (v_iv vG).toNat; rw [pO_eq i1 (f := 2) (by omega) hg]; exact hoo), trivial⟩⟩
      · rw [pO_eq i1 (f := 0) (by omega) hg]; exact HG_eq (i2 0 (by omega) _ hg (Or.inr (by decide))) (hw1 (by decide))
      · rw [pO_eq i1 (f := 0) (by omega) hg, pO_eq i1 (f := 1) (by omega) hg]; exact HF_eq (i2 0 (by omega) _ hg (Or.inr (by decide))) (i2 1 (by omega) _ hg (Or.inr (by decide))) (hw2 (by decide))
      · rw [pO_eq i1 (f := 0) (by omega) hg, pO_eq i1 (f := 2) (by omega) hg, ← hoo]
        have g0 := i2 0 (by omega) _ hg (Or.inr (by decide))
        exact ⟨by rw [nk 5 (by decide), fI_eq g0 (k := 0) (by decide)]; exact hZ.1, by rw [nk 6 (by decide), fI_eq g0 (k := 1) (by decide)]; exact hZ.2.1, by rw [nk 3 (by decide)]; exact hZ.2.2⟩
    · have zj := tk_join (q := ([(1, 5), (1, 6)], [(1, 9), (1, 12), (1, 16)])) hDj rfl rfl ((al_cons (by obtain ⟨e0, he0, _⟩ := th_in hu hu1 hr1; exact ⟨e0, he0⟩) (al_cons (by obtain ⟨e0, he0, _⟩ := th_in hu hu1 hr1; exact ⟨e0, he0⟩) al_nil))) ((al_cons ⟨(by obtain ⟨e0, he0, _⟩ := th_in hu hu1 hr1; exact ⟨e0, he0⟩), (by obtain ⟨d, rd, hd, td, md⟩ := tv_ref (fd_at hDu hu hu1 hr1 (k := 9) rfl (by decide)).1 rfl; obtain rfl := List.mem_singleton.mp md; obtain ⟨e0, he0, _⟩ := th_in hu td (g := GG_82) rfl; exact ⟨e0, (show (v_ad (w_fd u.2 o1 9), e0) ∈ u.2 by rw [hd]; exact he0)⟩)⟩ (al_cons ⟨(by obtain ⟨e0, he0, _⟩ := th_in hu hu1 hr1; exact ⟨e0, he0⟩), (by obtain ⟨d, rd, hd, td, md⟩ := tv_ref (fd_at hDu hu hu1 hr1 (k := 12) rfl (by decide)).1 rfl; obtain rfl := List.mem_singleton.mp md; obtain ⟨e0, he0, _⟩ := th_in hu td (g := GG_85) rfl; exact ⟨e0, (show (v_ad (w_fd u.2 o1 12), e0) ∈ u.2 by rw [hd]; exact he0)⟩)⟩ (al_cons ⟨(by obtain ⟨e0, he0, _⟩ := th_in hu hu1 hr1; exact ⟨e0, he0⟩), (by obtain ⟨d, rd, hd, td, md⟩ := tv_ref (fd_at hDu hu hu1 hr1 (k := 16) rfl (by decide)).1 rfl; obtain rfl := List.mem_singleton.mp md; obtain ⟨e0, he0, _⟩ := th_in hu td (g := GG_88) rfl; exact ⟨e0, (show (v_ad (w_fd u.2 o1 16), e0) ∈ u.2 by rw [hd]; exact he0)⟩)⟩ al_nil)))) po0
      exact ⟨(show ∀ n ∈ [1, 4], n < 5 by decide), zj.2⟩
def e_Fa_learn_f : en_T := ([(2, 0, 0, [2]), (2, 0, 0, [3])], none, false, 11, 0, 0, [], [], (281337537757184, [(2, 0), (2, 1), (2, 2), (2, 3)], [(20, [2, 3, 0, 1], [62, 391])], [(20, [2], [62, 0]), (20, [0], [50, 1, 0, 0, 7, 3, 2, 0, 0, 0, 0])], [(2, 0, 0, [12]), (0, 0, 3, [])]))
theorem cf_Fa_learn {l : Launch} {D : va_G} {kA : Nat → ClassId} (h_Fa_learn : ct_ok PRD l D kA GG y_Fa_learn z_Fa_learn e_Fa_learn) : ct_ok PRD l D kA GG y_Fa_learn z_Fa_learn e_Fa_learn_f := by
  refine ct_frame2 h_Fa_learn rfl rfl rfl rfl rfl rfl rfl rfl rfl (fun ta ws av gv hv hD hth hag hgv hhv hpr => ?_)
  obtain ⟨x0, x1, rfl⟩ := ln_2 (ag_lenP hag)
  obtain rfl := ln_0 (gv_lenP hgv)
  obtain ⟨vH, vG, rfl⟩ := ln_2 (ag_lenP hhv)
  have tH : tv_ok ta (2, 0, 0, [12]) vH := hhv.1
  have t0 : tv_ok ta (2, 0, 0, [2]) x0 := hag.1
  have t1 : tv_ok ta (2, 0, 0, [3]) x1 := hag.2.1
  obtain ⟨o0, ro0, rfl, ho0, hq0⟩ := tv_ref t0 rfl
  obtain rfl := List.mem_singleton.mp hq0
  obtain ⟨o1, ro1, rfl, ho1, hq1⟩ := tv_ref t1 rfl
  obtain rfl := List.mem_singleton.mp hq1
  obtain ⟨aH, rh, rfl, hH, hH2⟩ := tv_ref tH rfl
  obtain rfl := List.mem_singleton.mp hH2
  have hH : ta (v_ad (Value.ref aH)) = some rH := hH
  have hpr_zq : ∀ f ∈ [(20, [2, 3, 0, 1], [62, 391])], fc_1 PRD f ws (([Value.ref o0, Value.ref o1] ++ []) ++ [Value.ref aH, vG]) := hpr
  obtain ⟨pf0, hpr_zq⟩ := List.forall_mem_cons.mp hpr_zq
  have hW : WQF 391 [.ref aH, vG, .ref o0, .ref o1] ws := pf0.2
  obtain ⟨hg0, hg1, hX0, hw1, hw2, hw3, _, _, hl⟩ := hW
  have hg : (v_iv vG).toNat < 4 := by omega
  have hPl : HP ws (.ref aH) (v_iv vG).toNat := ⟨hw1 (by decide), hw2 (by decide), hw3 (by decide)⟩
  have hoo : o0 = pO ws (.ref aH) 1 (v_iv vG).toNat := hl.1.resolve_left (by decide)
  have hoo1 : o1 = pO ws (.ref aH) 0 (v_iv vG).toNat := hl.2.1.resolve_left (by decide)
  have hG := ro_none (G := GG) (by decide +kernel)
  have hc : fr_chk GG S0 [1, 0] = true := by decide +kernel
  have hgH : ∃ gg, GG[rH]? = some gg := ⟨GG_12, rfl⟩
  obtain ⟨P, hP⟩ : ∃ P, P = fr_P kA S0 ta ws ([1, 0].map (fun f => pO ws (.ref aH) f (v_iv vG).toNat)) := ⟨_, rfl⟩
  have hcl : ∀ a r g e, ta a = some r → GG[r]? = some g → (a, e) ∈ ws → P a = true → rg_ok kA ta g e → rg_ok kA (t_in P ta) g e := by
    rw [hP]
    refine fr_cl hth hD hG (by decide +kernel) (fun z hz => ?_)
    rcases List.mem_cons.mp hz with q | hz
    · exact ⟨2, by rw [q]; show ta (pO ws (.ref aH) 1 (v_iv vG).toNat) = some 2; rw [← hoo]; exact ho0, by decide +kernel⟩
    · have q := List.mem_singleton.mp hz
      exact ⟨3, by rw [q]; show ta (pO ws (.ref aH) 0 (v_iv vG).toNat) = some 3; rw [← hoo1]; exact ho1, by decide +kernel⟩
  have hro : ∀ r, ro_id r = true → P (kA r) = true := fun r hr => by rw [hP]; exact fr_ro r hr
  have hP0 : P o0 = true := by rw [hP]; exact fr_P_iff.mpr (Or.inr (Or.inl (by rw [hoo]; exact List.mem_cons_self)))
  have hP1 : P o1 = true := by rw [hP]; exact fr_P_iff.mpr (Or.inr (Or.inl (by rw [hoo1]; exact List.mem_cons_of_mem _ List.mem_cons_self)))
  have hr0 : GG[2]? = some GG_2 := rfl
  have hr1 : GG[3]? = some GG_3 := rfl
  have hf0 : ∀ k c, w_fd ws o0 k = .ref c → P c = true := fun k c hk => cl_fd hD hth hcl ho0 hr0 hP0 hk
  have hf1 : ∀ k c, w_fd ws o1 k = .ref c → P c = true := fun k c hk => cl_fd hD hth hcl ho1 hr1 hP1 hk
  have hav : ∀ b, Value.ref b ∈ [Value.ref o0, Value.ref o1] → P b = true ∧ ∀ k c, w_fd ws b k = .ref c → P c = true := fun b hb => by
    rcases List.mem_cons.mp hb with z | hb
    · injection z with z; subst z; exact ⟨hP0, hf0⟩
    · have z := List.mem_singleton.mp hb
      injection z with z; subst z; exact ⟨hP1, hf1⟩
  have gi : ob_eq (pF 0) (pA 0) o1 ws (w_in P ws) := ob_in hP1 (fun k _ d hd => hf1 k d hd)
  refine ⟨P, [], [], hro, hcl, ag_in hag (fun b hb => (hav b hb).1), gv_in hD (fun b hb => (hav b hb).1) (fun b hb => (hav b hb).2) hgv, trivial, ?_, ?_⟩
  · have hGi : HG (w_in P ws) o1 := HG_eq gi (by rw [hoo1]; exact hPl.1)
    have hn : w_fd (w_in P ws) o1 16 = .null ∨ ∃ d, w_fd (w_in P ws) o1 16 = .ref d := by rw [w_fd_in hP1]; exact fd_null hD hth ho1 hr1 (by decide) (k := 16) rfl rfl
    obtain ⟨q1, q2, q3, q4⟩ := GT_of (x := Value.ref o1) rfl hGi hn
    show ∀ f ∈ [(20, [1], [60, 2, 2, 596, 0, 1, 7, 8]), (20, [1], [60, 2, 3, 670, 0, 1, 14, 7, 8])], fc_1 PRD f (w_in P ws) (([Value.ref o0, Value.ref o1] ++ []) ++ [])
    refine al_cons ⟨(show ∀ n ∈ [1], n < 2 by decide), q1⟩ ?_
    refine al_cons ⟨(show ∀ n ∈ [1], n < 2 by decide), q2⟩ ?_
    exact al_nil
  · intro u tb r hle hu htb le1 le2 hkp hDj hpo
    show ∀ f ∈ [(20, [2], [62, 0]), (20, [0], [50, 1, 0, 0, 7, 3, 2, 0, 0, 0, 0])], fc_1 PRD f (w_out P ws ++ u.2) ((([Value.ref o0, Value.ref o1] ++ []) ++ [Value.ref aH, vG]) ++ r.toList)
    have hx := fr_HX hD hth hG hH hgH hc hg hX0 hP hDj hle hu
    obtain ⟨f1, f2, _⟩ := fr_in hD hth hH hc hg hP hDj hle hu (f := 1) (by omega) (by decide)
    obtain ⟨e1, e2, _⟩ := fr_in hD hth hH hc hg hP hDj hle hu (f := 0) (by omega) (by decide)
    obtain ⟨i1, i2⟩ := fr_ot hD hth hG hH hgH hc hX0.1 hg hP hDj
    rw [← hoo] at f1 f2
    rw [← hoo1] at e1 e2
    have hDu := vd_right hDj
    have gu : ob_eq (pF 0) (pA 0) o1 (w_in P ws) u.2 := kp_obC (vd_filter hD (fun _ _ _ => trivial)) hDu (th_part hth hro hcl) hkp (t_in_of hP1 ho1) (by decide +kernel)
    have gw := ob_trans (fun k hk => ar_in (f := 0) (by omega) hk) (ob_trans (fun k hk => ar_in (f := 0) (by omega) hk) gi gu) e2
    have hpo_zq : ∀ f ∈ [(20, [1, 0], [60, 1, 2, 671, 0, 14, 1004]), (20, [1, 0], [60, 2, 1, 672, 0, 1001, 1004]), (20, [1, 0], [60, 1, 3, 658, 1, 7, 8, 1009]), (20, [1, 0], [60, 3, 3, 673, 0, 1, 1002, 14, 7, 8]), (20, [0], [50, 1, 0, 0, 7, 3, 2, 0, 0, 0, 0])], fc_1 PRD f u.2 (([Value.ref o0, Value.ref o1] ++ []) ++ [] ++ r.toList) := hpo.1
    obtain ⟨po0, hpo_zq⟩ := List.forall_mem_cons.mp hpo_zq
    have zPNC : PNC (w_fi u.2 (Value.ref o1) 0) (w_ei u.2 (w_ar u.2 (Value.ref o1) 14)) (w_ei u.2 (w_ar u.2 (Value.ref o0) 4)) := (fc_cut (xs := ([Value.ref o0, Value.ref o1] ++ []) ++ []) (show ∀ n ∈ [1, 0], n < 2 by decide) po0).2
    obtain ⟨po1, hpo_zq⟩ := List.forall_mem_cons.mp hpo_zq
    have zFPA : FPA (w_fi u.2 (Value.ref o1) 0) (w_fi u.2 (Value.ref o0) 1) (w_ei u.2 (w_ar u.2 (Value.ref o0) 4)) := (fc_cut (xs := ([Value.ref o0, Value.ref o1] ++ []) ++ []) (show ∀ n ∈ [1, 0], n < 2 by decide) po1).2
    obtain ⟨po2, hpo_zq⟩ := List.forall_mem_cons.mp hpo_zq
    have zTPO : TPO (w_fi u.2 (Value.ref o1) 1) (w_ei u.2 (w_ar u.2 (Value.ref o1) 7)) (w_ei u.2 (w_ar u.2 (Value.ref o1) 8)) (w_ei u.2 (w_ar u.2 (Value.ref o0) 9)) := (fc_cut (xs := ([Value.ref o0, Value.ref o1] ++ []) ++ []) (show ∀ n ∈ [1, 0], n < 2 by decide) po2).2
    obtain ⟨po3, hpo_zq⟩ := List.forall_mem_cons.mp hpo_zq
    have zBKS : BKS (w_fi u.2 (Value.ref o1) 0) (w_fi u.2 (Value.ref o1) 1) (w_fi u.2 (Value.ref o0) 2) (w_ei u.2 (w_ar u.2 (Value.ref o1) 14)) (w_ei u.2 (w_ar u.2 (Value.ref o1) 7)) (w_ei u.2 (w_ar u.2 (Value.ref o1) 8)) := (fc_cut (xs := ([Value.ref o0, Value.ref o1] ++ []) ++ []) (show ∀ n ∈ [1, 0], n < 2 by decide) po3).2
    obtain ⟨po4, hpo_zq⟩ := List.forall_mem_cons.mp hpo_zq
    obtain ⟨d7, hd7⟩ := fd_some hDu hu e1 hr1 (by decide) (k := 7) rfl rfl
    obtain ⟨d8, hd8⟩ := fd_some hDu hu e1 hr1 (by decide) (k := 8) rfl rfl
    obtain ⟨d14, hd14⟩ := fd_some hDu hu e1 hr1 (by decide) (k := 14) rfl rfl
    obtain ⟨p4, hp4⟩ := fd_some hDu hu f1 hr0 (by decide) (k := 4) rfl rfl
    obtain ⟨p9, hp9⟩ := fd_some hDu hu f1 hr0 (by decide) (k := 9) rfl rfl
    have a7 : w_ar u.2 (Value.ref o1) 7 = d7 := by show v_ad (w_fd u.2 o1 7) = d7; rw [hd7]; rfl
    have a8 : w_ar u.2 (Value.ref o1) 8 = d8 := by show v_ad (w_fd u.2 o1 8) = d8; rw [hd8]; rfl
    have a14 : w_ar u.2 (Value.ref o1) 14 = d14 := by show v_ad (w_fd u.2 o1 14) = d14; rw [hd14]; rfl
    have b4 : w_ar u.2 (Value.ref o0) 4 = p4 := by show v_ad (w_fd u.2 o0 4) = p4; rw [hp4]; rfl
    have b9 : w_ar u.2 (Value.ref o0) 9 = p9 := by show v_ad (w_fd u.2 o0 9) = p9; rw [hp9]; rfl
    rw [a14, b4] at zPNC
    rw [b4] at zFPA
    rw [a7, a8, b9] at zTPO
    rw [a14, a7, a8] at zBKS
    have hFu : HF u.2 o1 o0 := Or.inr ⟨d14, p4, d7, d8, p9, hd14, hp4, hd7, hd8, hp9, zPNC, zFPA, zTPO, zBKS⟩
    refine al_cons (fc_ext ⟨(show ∀ n ∈ [2], n < 4 by decide), ?_⟩) (al_cons (fc_ext (fc_ext (tk_join (q := ([(0, 0)], [])) hDj rfl rfl ((al_cons (by obtain ⟨e0, he0, _⟩ := th_in hu f1 hr0; exact ⟨e0, he0⟩) al_nil)) (al_nil) (fc_cut (xs := ([Value.ref o0, Value.ref o1] ++ [])) (show ∀ n ∈ [0], n < 2 by decide) (by have z := po4; rw [List.append_assoc] at z; exact z))))) al_nil)
    show HI (w_out P ws ++ u.2) (.ref aH)
    refine HX_I hx ⟨?_, ?_, ?_⟩
    · rw [pO_eq i1 (f := 0) (by omega) hg, ← hoo1]; exact HG_eq gw (by rw [hoo1]; exact hPl.1)
    · rw [pO_eq i1 (f := 0) (by omega) hg, pO_eq i1 (f := 1) (by omega) hg, ← hoo1, ← hoo]; exact HF_eq e2 f2 hFu
    · rw [pO_eq i1 (f := 0) (by omega) hg, pO_eq i1 (f := 2) (by omega) hg, ← hoo1]; exact HN_eq gw (i2 2 (by omega) _ hg (Or.inr (by decide))) (by rw [hoo1]; exact hPl.2.2)
def e_Gr_alter_at_kx_f : en_T := ([(2, 0, 0, [3]), (0, -2147483648, 2147483647, []), (0, -2147483648, 2147483647, []), (0, -2147483648, 2147483647, [])], some (0, 0, 47, []), false, 10, 2, 3785, [], [((0, 16), (3, 0, 0, [61])), ((0, 0), (0, 0, 24, [])), ((0, 1), (0, 0, 48, [])), ((0, 7), (2, 0, 0, [52])), ((0, 8), (2, 0, 0, [53]))], (381944245562716141175333566576758405197150323812363046994276334253946497812627017594568704, [(3, 0), (3, 1), (3, 16), (3, 17), (3, 18)], [(20, [9, 10, 0], [62, 71]), (20, [1, 2, 0, 3], [50, 3, 0, 2002, 2000, 2001, 3, 36, 2, 6, 1, 2, 1, 0, 0, 0, 2, 6, 0, 2, 0, 0, 1, 1, 2, 11, 0, 6, 4, 2, 1, 1, 0, 1, 2, 2, 2, 0, 3, 2, 2, 0, 0, 23, 3, 81, 2, 6, 1, 2, 1, 0, 0, 1, 2, 6, 0, 2, 0, 0, 1, 1, 2, 11, 0, 6, 4, 2, 1, 1, 0, 1, 2, 2, 0, 2, 6, 0, 2, 0, 0, 1, 3, 2, 11, 0, 6, 4, 2, 1, 3, 0, 1, 2, 2, 0, 2, 7, 0, 3, 2, 2, 1, 0, 47, 3, 10, 0, 6, 4, 2, 1, 1, 0, 1, 1, 3, 0, 6, 4, 2, 1, 3, 0, 1, 1, 1, 3, 27, 2, 6, 1, 2, 1, 0, 0, 2, 2, 6, 0, 2, 0, 0, 1, 1, 0, 6, 4, 2, 1, 1, 0, 1, 2, 2, 1, 3, 27, 2, 6, 1, 2, 1, 0, 0, 3, 2, 6, 0, 2, 0, 0, 1, 1, 0, 6, 4, 2, 1, 1, 0, 1, 2, 2, 0, 3, 43, 2, 6, 1, 2, 1, 0, 0, 4, 2, 6, 0, 2, 0, 0, 1, 1, 2, 11, 0, 6, 4, 2, 1, 1, 0, 1, 2, 2, 0, 2, 6, 0, 2, 0, 1, 1, 3, 0, 2, 1, 3, 0, 99, 3, 43, 2, 6, 1, 2, 1, 0, 0, 5, 2, 6, 0, 2, 0, 0, 1, 1, 2, 11, 0, 6, 4, 2, 1, 1, 0, 1, 2, 2, 1, 2, 6, 0, 2, 0, 1, 1, 3, 0, 2, 1, 3, 0, 9, 3, 48, 2, 6, 1, 2, 1, 0, 0, 6, 2, 6, 0, 2, 0, 0, 1, 1, 2, 11, 0, 6, 4, 2, 1, 1, 0, 1, 2, 2, 0, 2, 6, 0, 2, 0, 0, 1, 3, 0, 6, 4, 2, 1, 3, 0, 1, 2, 2, 2, 2, 6, 1, 2, 1, 0, 0, 7, 2, 6, 0, 2, 0, 0, 1, 1, 2, 11, 0, 6, 4, 2, 1, 1, 0, 1, 2, 2, 1, 2, 6, 0, 2, 0, 0, 1, 3, 0, 2, 1, 3, 0, 1])], [(20, [9, 10], [62, 1])], [(2, 0, 0, [12]), (0, 0, 3, [])]))
theorem cf_Gr_alter_at_kx {l : Launch} {D : va_G} {kA : Nat → ClassId} (h_Gr_alter_at_kx : ct_ok PRD l D kA GG y_Gr_alter_at_kx z_Gr_alter_at_kx e_Gr_alter_at_kx) : ct_ok PRD l D kA GG y_Gr_alter_at_kx z_Gr_alter_at_kx e_Gr_alter_at_kx_f := by
  refine ct_frame2 h_Gr_alter_at_kx rfl rfl rfl rfl rfl rfl rfl rfl rfl (fun ta ws av gv hv hD hth hag hgv hhv hpr => ?_)
  obtain ⟨x0, x1, x2, x3, rfl⟩ := ln_4 (ag_lenP hag)
  obtain ⟨g0, g1, g2, g3, g4, rfl⟩ := ln_5 (gv_lenP hgv)
  obtain ⟨vH, vG, rfl⟩ := ln_2 (ag_lenP hhv)
  have tH : tv_ok ta (2, 0, 0, [12]) vH := hhv.1
  have tG : tv_ok ta (0, 0, 3, []) vG := hhv.2.1
  have t0 : tv_ok ta (2, 0, 0, [3]) x0 := hag.1
  obtain ⟨o0, ro0, rfl, ho0, hq0⟩ := tv_ref t0 rfl
  obtain rfl := List.mem_singleton.mp hq0
  have t1 : tv_ok ta (0, -2147483648, 2147483647, []) x1 := hag.2.1
  have t2 : tv_ok ta (0, -2147483648, 2147483647, []) x2 := hag.2.2.1
  have t3 : tv_ok ta (0, -2147483648, 2147483647, []) x3 := hag.2.2.2.1
  obtain ⟨aH, rh, rfl, hH, hH2⟩ := tv_ref tH rfl
  obtain rfl := List.mem_singleton.mp hH2
  have hH : ta (v_ad (Value.ref aH)) = some rH := hH
  have hpr_zq : ∀ f ∈ [(20, [9, 10, 0], [62, 71]), (20, [1, 2, 0, 3], [50, 3, 0, 2002, 2000, 2001, 3, 36, 2, 6, 1, 2, 1, 0, 0, 0, 2, 6, 0, 2, 0, 0, 1, 1, 2, 11, 0, 6, 4, 2, 1, 1, 0, 1, 2, 2, 2, 0, 3, 2, 2, 0, 0, 23, 3, 81, 2, 6, 1, 2, 1, 0, 0, 1, 2, 6, 0, 2, 0, 0, 1, 1, 2, 11, 0, 6, 4, 2, 1, 1, 0, 1, 2, 2, 0, 2, 6, 0, 2, 0, 0, 1, 3, 2, 11, 0, 6, 4, 2, 1, 3, 0, 1, 2, 2, 0, 2, 7, 0, 3, 2, 2, 1, 0, 47, 3, 10, 0, 6, 4, 2, 1, 1, 0, 1, 1, 3, 0, 6, 4, 2, 1, 3, 0, 1, 1, 1, 3, 27, 2, 6, 1, 2, 1, 0, 0, 2, 2, 6, 0, 2, 0, 0, 1, 1, 0, 6, 4, 2, 1, 1, 0, 1, 2, 2, 1, 3, 27, 2, 6, 1, 2, 1, 0, 0, 3, 2, 6, 0, 2, 0, 0, 1, 1, 0, 6, 4, 2, 1, 1, 0, 1, 2, 2, 0, 3, 43, 2, 6, 1, 2, 1, 0, 0, 4, 2, 6, 0, 2, 0, 0, 1, 1, 2, 11, 0, 6, 4, 2, 1, 1, 0, 1, 2, 2, 0, 2, 6, 0, 2, 0, 1, 1, 3, 0, 2, 1, 3, 0, 99, 3, 43, 2, 6, 1, 2, 1, 0, 0, 5, 2, 6, 0, 2, 0, 0, 1, 1, 2, 11, 0, 6, 4, 2, 1, 1, 0, 1, 2, 2, 1, 2, 6, 0, 2, 0, 1, 1, 3, 0, 2, 1, 3, 0, 9, 3, 48, 2, 6, 1, 2, 1, 0, 0, 6, 2, 6, 0, 2, 0, 0, 1, 1, 2, 11, 0, 6, 4, 2, 1, 1, 0, 1, 2, 2, 0, 2, 6, 0, 2, 0, 0, 1, 3, 0, 6, 4, 2, 1, 3, 0, 1, 2, 2, 2, 2, 6, 1, 2, 1, 0, 0, 7, 2, 6, 0, 2, 0, 0, 1, 1, 2, 11, 0, 6, 4, 2, 1, 1, 0, 1, 2, 2, 1, 2, 6, 0, 2, 0, 0, 1, 3, 0, 2, 1, 3, 0, 1])], fc_1 PRD f ws (([(Value.ref o0), x1, x2, x3] ++ [g0, g1, g2, g3, g4]) ++ [Value.ref aH, vG]) := hpr
  obtain ⟨pf0, hpr_zq⟩ := List.forall_mem_cons.mp hpr_zq
  obtain ⟨pf1, hpr_zq⟩ := List.forall_mem_cons.mp hpr_zq
  have hW : WQF 71 [.ref aH, vG, .ref o0] ws := pf0.2
  obtain ⟨hg0, hg1, hX0, hw1, hw2, hw3, _, _, hl⟩ := hW
  have hg : (v_iv vG).toNat < 4 := by omega
  have hPl : HP ws (.ref aH) (v_iv vG).toNat := ⟨hw1 (by decide), hw2 (by decide), hw3 (by decide)⟩
  have hI := HX_I hX0 hPl
  have hoo : o0 = pO ws (.ref aH) 0 (v_iv vG).toNat := hl.1.resolve_left (by decide)
  have hG := ro_none (G := GG) (by decide +kernel)
  have hc : fr_chk GG S0 [0] = true := by decide +kernel
  have hgH : ∃ gg, GG[rH]? = some gg := ⟨GG_12, rfl⟩
  obtain ⟨P, hP⟩ : ∃ P, P = fr_P kA S0 ta ws ([0].map (fun f => pO ws (.ref aH) f (v_iv vG).toNat)) := ⟨_, rfl⟩
  have hcl : ∀ a r g e, ta a = some r → GG[r]? = some g → (a, e) ∈ ws → P a = true → rg_ok kA ta g e → rg_ok kA (t_in P ta) g e := by
    rw [hP]
    refine fr_cl hth hD hG (by decide +kernel) (fun z hz => ?_)
    obtain rfl := List.mem_singleton.mp hz
    exact ⟨3, by show ta (pO ws (.ref aH) 0 (v_iv vG).toNat) = some 3; rw [← hoo]; exact ho0, by decide +kernel⟩
  have hP0 : P o0 = true := by rw [hP]; exact fr_P_iff.mpr (Or.inr (Or.inl (by rw [hoo]; exact List.mem_cons_self)))
  have hr0 : GG[3]? = some GG_3 := rfl
  have hf0 : ∀ k c, w_fd ws o0 k = .ref c → P c = true := fun k c hk => cl_fd hD hth hcl ho0 hr0 hP0 hk
  have hav : ∀ b, Value.ref b ∈ [(Value.ref o0), x1, x2, x3] → P b = true ∧ ∀ k c, w_fd ws b k = .ref c → P c = true := fun b hb => by
    rcases List.mem_cons.mp hb with z | hb
    · injection z with z; subst z; exact ⟨hP0, hf0⟩
    rcases List.mem_cons.mp hb with z | hb
    · exact absurd z.symm (no_ref t1 rfl)
    rcases List.mem_cons.mp hb with z | hb
    · exact absurd z.symm (no_ref t2 rfl)
    rcases List.mem_cons.mp hb with z | hb
    · exact absurd z.symm (no_ref t3 rfl)
    cases hb
  refine ⟨P, [g0, g1, g2, g3, g4], [], fun r hr => by rw [hP]; exact fr_ro r hr, hcl, ag_in hag (fun b hb => (hav b hb).1), gv_in hD (fun b hb => (hav b hb).1) (fun b hb => (hav b hb).2) hgv, trivial, ?_, ?_⟩
  · have hGi : HG (w_in P ws) o0 := HG_eq (ob_in hP0 (fun k _ d hd => hf0 k d hd)) (by rw [hoo]; exact hPl.1)
    have hn : w_fd (w_in P ws) o0 16 = .null ∨ ∃ d, w_fd (w_in P ws) o0 16 = .ref d := by rw [w_fd_in hP0]; exact fd_null hD hth ho0 hr0 (by decide) (k := 16) rfl rfl
    obtain ⟨q1, q2, q3, q4⟩ := GT_of (x := Value.ref o0) rfl hGi hn
    show ∀ f ∈ [(20, [1, 2, 0, 3], [50, 3, 0, 2002, 2000, 2001, 3, 36, 2, 6, 1, 2, 1, 0, 0, 0, 2, 6, 0, 2, 0, 0, 1, 1, 2, 11, 0, 6, 4, 2, 1, 1, 0, 1, 2, 2, 2, 0, 3, 2, 2, 0, 0, 23, 3, 81, 2, 6, 1, 2, 1, 0, 0, 1, 2, 6, 0, 2, 0, 0, 1, 1, 2, 11, 0, 6, 4, 2, 1, 1, 0, 1, 2, 2, 0, 2, 6, 0, 2, 0, 0, 1, 3, 2, 11, 0, 6, 4, 2, 1, 3, 0, 1, 2, 2, 0, 2, 7, 0, 3, 2, 2, 1, 0, 47, 3, 10, 0, 6, 4, 2, 1, 1, 0, 1, 1, 3, 0, 6, 4, 2, 1, 3, 0, 1, 1, 1, 3, 27, 2, 6, 1, 2, 1, 0, 0, 2, 2, 6, 0, 2, 0, 0, 1, 1, 0, 6, 4, 2, 1, 1, 0, 1, 2, 2, 1, 3, 27, 2, 6, 1, 2, 1, 0, 0, 3, 2, 6, 0, 2, 0, 0, 1, 1, 0, 6, 4, 2, 1, 1, 0, 1, 2, 2, 0, 3, 43, 2, 6, 1, 2, 1, 0, 0, 4, 2, 6, 0, 2, 0, 0, 1, 1, 2, 11, 0, 6, 4, 2, 1, 1, 0, 1, 2, 2, 0, 2, 6, 0, 2, 0, 1, 1, 3, 0, 2, 1, 3, 0, 99, 3, 43, 2, 6, 1, 2, 1, 0, 0, 5, 2, 6, 0, 2, 0, 0, 1, 1, 2, 11, 0, 6, 4, 2, 1, 1, 0, 1, 2, 2, 1, 2, 6, 0, 2, 0, 1, 1, 3, 0, 2, 1, 3, 0, 9, 3, 48, 2, 6, 1, 2, 1, 0, 0, 6, 2, 6, 0, 2, 0, 0, 1, 1, 2, 11, 0, 6, 4, 2, 1, 1, 0, 1, 2, 2, 0, 2, 6, 0, 2, 0, 0, 1, 3, 0, 6, 4, 2, 1, 3, 0, 1, 2, 2, 2, 2, 6, 1, 2, 1, 0, 0, 7, 2, 6, 0, 2, 0, 0, 1, 1, 2, 11, 0, 6, 4, 2, 1, 1, 0, 1, 2, 2, 1, 2, 6, 0, 2, 0, 0, 1, 3, 0, 2, 1, 3, 0, 1]), (20, [0], [50, 2, 0, 17, 18, 0, 8, 4, 3, 2, 0, 17, 2, 0, 18, 0, 30]), (20, [0], [60, 2, 1, 739, 17, 18, 16]), (20, [0], [60, 2, 3, 670, 0, 1, 14, 7, 8]), (20, [0], [60, 2, 2, 596, 0, 1, 7, 8])], fc_1 PRD f (w_in P ws) (([(Value.ref o0), x1, x2, x3] ++ [g0, g1, g2, g3, g4]) ++ [])
    refine al_cons (by exact tk_part (u := ([(0, 2), (0, 0), (0, 1)], [])) rfl rfl ((al_cons hP0 (al_cons hP0 (al_cons hP0 al_nil)))) (al_nil) (fc_ext (fc_cut (xs := ([(Value.ref o0), x1, x2, x3] ++ [g0, g1, g2, g3, g4])) (show ∀ n ∈ [1, 2, 0, 3], n < 9 by decide) pf1))) ?_
    refine al_cons (by exact ⟨(show ∀ n ∈ [0], n < 9 by decide), q3⟩) ?_
    refine al_cons (by exact ⟨(show ∀ n ∈ [0], n < 9 by decide), q4⟩) ?_
    refine al_cons (by exact ⟨(show ∀ n ∈ [0], n < 9 by decide), q2⟩) ?_
    refine al_cons (by exact ⟨(show ∀ n ∈ [0], n < 9 by decide), q1⟩) ?_
    exact al_nil
  · intro u tb r hle hu htb le1 le2 hkp hDj hpo
    show ∀ f ∈ [(20, [9, 10], [62, 1])], fc_1 PRD f (w_out P ws ++ u.2) ((([(Value.ref o0), x1, x2, x3] ++ [g0, g1, g2, g3, g4]) ++ [Value.ref aH, vG]) ++ r.toList)
    refine al_cons (fc_ext ⟨(show ∀ n ∈ [9, 10], n < 11 by decide), ?_⟩) al_nil
    show WQF 1 [.ref aH, vG] (w_out P ws ++ u.2)
    have hx := fr_HX hD hth hG hH hgH hc hg (HI_X hI) hP hDj hle hu
    obtain ⟨f1, f2, _⟩ := fr_in hD hth hH hc hg hP hDj hle hu (f := 0) (by omega) (by decide)
    rw [← hoo] at f1 f2
    have hDu := vd_right hDj
    have hpo_zq : ∀ f ∈ [(20, [0], [50, 2, 0, 17, 18, 0, 8, 4, 3, 2, 0, 17, 2, 0, 18, 0, 30]), (20, [0], [60, 2, 1, 739, 17, 18, 16]), (20, [0], [60, 2, 3, 670, 0, 1, 14, 7, 8]), (20, [0], [60, 2, 2, 596, 0, 1, 7, 8])], fc_1 PRD f u.2 ((([(Value.ref o0), x1, x2, x3] ++ [g0, g1, g2, g3, g4]) ++ []) ++ r.toList) := hpo.1
    obtain ⟨po0, hpo_zq⟩ := List.forall_mem_cons.mp hpo_zq
    have zDU : w_fi u.2 (Value.ref o0) 17 + w_fi u.2 (Value.ref o0) 18 ≤ 30 := (fc_cut (xs := (([(Value.ref o0), x1, x2, x3] ++ [g0, g1, g2, g3, g4]) ++ [])) (show ∀ n ∈ [0], n < 9 by decide) po0).2
    obtain ⟨po1, hpo_zq⟩ := List.forall_mem_cons.mp hpo_zq
    have zPDQ : PDQ (w_fi u.2 (Value.ref o0) 17) (w_fi u.2 (Value.ref o0) 18) (w_ei u.2 (w_ar u.2 (Value.ref o0) 16)) := (fc_cut (xs := (([(Value.ref o0), x1, x2, x3] ++ [g0, g1, g2, g3, g4]) ++ [])) (show ∀ n ∈ [0], n < 9 by decide) po1).2
    obtain ⟨po2, hpo_zq⟩ := List.forall_mem_cons.mp hpo_zq
    have zGNB : GNB (w_fi u.2 (Value.ref o0) 0) (w_fi u.2 (Value.ref o0) 1) (w_ei u.2 (w_ar u.2 (Value.ref o0) 14)) (w_ei u.2 (w_ar u.2 (Value.ref o0) 7)) (w_ei u.2 (w_ar u.2 (Value.ref o0) 8)) := (fc_cut (xs := (([(Value.ref o0), x1, x2, x3] ++ [g0, g1, g2, g3, g4]) ++ [])) (show ∀ n ∈ [0], n < 9 by decide) po2).2
    obtain ⟨po3, hpo_zq⟩ := List.forall_mem_cons.mp hpo_zq
    have zGKE : GKE (w_fi u.2 (Value.ref o0) 0) (w_fi u.2 (Value.ref o0) 1) (w_ei u.2 (w_ar u.2 (Value.ref o0) 7)) (w_ei u.2 (w_ar u.2 (Value.ref o0) 8)) := (fc_cut (xs := (([(Value.ref o0), x1, x2, x3] ++ [g0, g1, g2, g3, g4]) ++ [])) (show ∀ n ∈ [0], n < 9 by decide) po3).2
    obtain ⟨d7, hd7⟩ := fd_some hDu hu f1 hr0 (by decide) (k := 7) rfl rfl
    obtain ⟨d8, hd8⟩ := fd_some hDu hu f1 hr0 (by decide) (k := 8) rfl rfl
    obtain ⟨d14, hd14⟩ := fd_some hDu hu f1 hr0 (by decide) (k := 14) rfl rfl
    obtain ⟨d16, hd16⟩ := pa_ref (k := 16) (o := o0) hDu hpo (by decide +kernel) rfl
    have hGu : HG u.2 o0 := GT_HG (x := Value.ref o0) rfl ⟨zGKE, zGNB, zDU, zPDQ⟩ hd7 hd8 hd14 (fun hz => by rw [hd16] at hz; cases hz)
    have eo : pO (w_out P ws ++ u.2) (.ref aH) 0 (v_iv vG).toNat = o0 := by rw [pO_eq (fr_ot hD hth hG hH hgH hc hI.1 hg hP hDj).1 (f := 0) (by omega) hg]; exact hoo.symm
    exact ⟨hg0, hg1, hx, fun _ => by rw [eo]; exact HG_eq f2 hGu, fun q => absurd q (by decide), fun q => absurd q (by decide), fun q => absurd q (by decide), fun q => absurd q (by decide), trivial⟩
def e_Gr_copyFrom_f : en_T := ([(2, 0, 0, [3]), (2, 0, 0, [164])], none, false, 8, 0, 0, [], [((1, 7), (2, 0, 0, [154])), ((1, 8), (2, 0, 0, [155])), ((1, 0), (0, 0, 24, [])), ((1, 1), (0, 0, 48, []))], (2305561534236983296, [(3, 0), (3, 1), (3, 2), (3, 17), (3, 18)], [(20, [6, 7, 0], [62, 71]), (20, [1], [60, 2, 2, 596, 0, 1, 7, 8])], [(20, [6, 7], [62, 1]), (20, [0, 4], [50, 1, 0, 0, 1, 3, 2, 0, 0, 1, 1])], [(2, 0, 0, [12]), (0, 0, 3, [])]))
theorem cf_Gr_copyFrom {l : Launch} {D : va_G} {kA : Nat → ClassId} (h_Gr_copyFrom : ct_ok PRD l D kA GG y_Gr_copyFrom z_Gr_copyFrom e_Gr_copyFrom) : ct_ok PRD l D kA GG y_Gr_copyFrom z_Gr_copyFrom e_Gr_copyFrom_f := by
  refine ct_frame2 h_Gr_copyFrom rfl rfl rfl rfl rfl rfl rfl rfl rfl (fun ta ws av gv hv hD hth hag hgv hhv hpr => ?_)
  obtain ⟨x0, x1, rfl⟩ := ln_2 (ag_lenP hag)
  obtain ⟨g0, g1, g2, g3, rfl⟩ := ln_4 (gv_lenP hgv)
  obtain ⟨vH, vG, rfl⟩ := ln_2 (ag_lenP hhv)
  have tH : tv_ok ta (2, 0, 0, [12]) vH := hhv.1
  have tG : tv_ok ta (0, 0, 3, []) vG := hhv.2.1
  have t0 : tv_ok ta (2, 0, 0, [3]) x0 := hag.1
  obtain ⟨o0, ro0, rfl, ho0, hq0⟩ := tv_ref t0 rfl
  obtain rfl := List.mem_singleton.mp hq0
  have t1 : tv_ok ta (2, 0, 0, [164]) x1 := hag.2.1
  obtain ⟨o1, ro1, rfl, ho1, hq1⟩ := tv_ref t1 rfl
  obtain rfl := List.mem_singleton.mp hq1
  obtain ⟨aH, rh, rfl, hH, hH2⟩ := tv_ref tH rfl
  obtain rfl := List.mem_singleton.mp hH2
  have hH : ta (v_ad (Value.ref aH)) = some rH := hH
  have hpr_zq : ∀ f ∈ [(20, [6, 7, 0], [62, 71]), (20, [1], [60, 2, 2, 596, 0, 1, 7, 8])], fc_1 PRD f ws (([(Value.ref o0), (Value.ref o1)] ++ [g0, g1, g2, g3]) ++ [Value.ref aH, vG]) := hpr
  obtain ⟨pf0, hpr_zq⟩ := List.forall_mem_cons.mp hpr_zq
  obtain ⟨pf1, hpr_zq⟩ := List.forall_mem_cons.mp hpr_zq
  have hW : WQF 71 [.ref aH, vG, .ref o0] ws := pf0.2
  obtain ⟨hg0, hg1, hX0, hw1, hw2, hw3, _, _, hl⟩ := hW
  have hg : (v_iv vG).toNat < 4 := by omega
  have hPl : HP ws (.ref aH) (v_iv vG).toNat := ⟨hw1 (by decide), hw2 (by decide), hw3 (by decide)⟩
  have hI := HX_I hX0 hPl
  have hoo : o0 = pO ws (.ref aH) 0 (v_iv vG).toNat := hl.1.resolve_left (by decide)
  have hG := ro_none (G := GG) (by decide +kernel)
  have hc : fr_chk GG (fun r => decide (150 ≤ r) && decide (r ≤ 164)) [0] = true := by decide +kernel
  have hgH : ∃ gg, GG[rH]? = some gg := ⟨GG_12, rfl⟩
  obtain ⟨P, hP⟩ : ∃ P, P = fr_P kA (fun r => decide (150 ≤ r) && decide (r ≤ 164)) ta ws ([0].map (fun f => pO ws (.ref aH) f (v_iv vG).toNat)) := ⟨_, rfl⟩
  have hcl : ∀ a r g e, ta a = some r → GG[r]? = some g → (a, e) ∈ ws → P a = true → rg_ok kA ta g e → rg_ok kA (t_in P ta) g e := by
    rw [hP]
    refine fr_cl hth hD hG (by decide +kernel) (fun z hz => ?_)
    obtain rfl := List.mem_singleton.mp hz
    exact ⟨3, by show ta (pO ws (.ref aH) 0 (v_iv vG).toNat) = some 3; rw [← hoo]; exact ho0, by decide +kernel⟩
  have hP0 : P o0 = true := by rw [hP]; exact fr_P_iff.mpr (Or.inr (Or.inl (by rw [hoo]; exact List.mem_cons_self)))
  have hP1 : P o1 = true := by rw [hP]; exact fr_P_iff.mpr (Or.inl ⟨_, ho1, by decide +kernel⟩)
  have hr0 : GG[3]? = some GG_3 := rfl
  have hf0 : ∀ k c, w_fd ws o0 k = .ref c → P c = true := fun k c hk => cl_fd hD hth hcl ho0 hr0 hP0 hk
  have hr1 : GG[164]? = some GG_164 := rfl
  have hf1 : ∀ k c, w_fd ws o1 k = .ref c → P c = true := fun k c hk => cl_fd hD hth hcl ho1 hr1 hP1 hk
  have hav : ∀ b, Value.ref b ∈ [(Value.ref o0), (Value.ref o1)] → P b = true ∧ ∀ k c, w_fd ws b k = .ref c → P c = true := fun b hb => by
    rcases List.mem_cons.mp hb with z | hb
    · injection z with z; subst z; exact ⟨hP0, hf0⟩
    rcases List.mem_cons.mp hb with z | hb
    · injection z with z; subst z; exact ⟨hP1, hf1⟩
    cases hb
  refine ⟨P, [g0, g1, g2, g3], [], fun r hr => by rw [hP]; exact fr_ro r hr, hcl, ag_in hag (fun b hb => (hav b hb).1), gv_in hD (fun b hb => (hav b hb).1) (fun b hb => (hav b hb).2) hgv, trivial, ?_, ?_⟩
  · have hGi : HG (w_in P ws) o0 := HG_eq (ob_in hP0 (fun k _ d hd => hf0 k d hd)) (by rw [hoo]; exact hPl.1)
    have hn : w_fd (w_in P ws) o0 16 = .null ∨ ∃ d, w_fd (w_in P ws) o0 16 = .ref d := by rw [w_fd_in hP0]; exact fd_null hD hth ho0 hr0 (by decide) (k := 16) rfl rfl
    obtain ⟨q1, q2, q3, q4⟩ := GT_of (x := Value.ref o0) rfl hGi hn
    show ∀ f ∈ [(20, [1], [60, 2, 2, 596, 0, 1, 7, 8])], fc_1 PRD f (w_in P ws) (([(Value.ref o0), (Value.ref o1)] ++ [g0, g1, g2, g3]) ++ [])
    refine al_cons (by exact tk_part (u := ([(1, 0), (1, 1)], [(1, 7), (1, 8)])) rfl rfl ((al_cons hP1 (al_cons hP1 al_nil))) ((al_cons ⟨hP1, (by obtain ⟨d, hd⟩ := fd_some hD hth ho1 hr1 (by decide) (k := 7) rfl rfl; show P (v_ad (w_fd ws o1 7)) = true; rw [hd]; exact hf1 7 d hd)⟩ (al_cons ⟨hP1, (by obtain ⟨d, hd⟩ := fd_some hD hth ho1 hr1 (by decide) (k := 8) rfl rfl; show P (v_ad (w_fd ws o1 8)) = true; rw [hd]; exact hf1 8 d hd)⟩ al_nil))) (fc_ext (fc_cut (xs := ([(Value.ref o0), (Value.ref o1)] ++ [g0, g1, g2, g3])) (show ∀ n ∈ [1], n < 6 by decide) pf1))) ?_
    exact al_nil
  · intro u tb r hle hu htb le1 le2 hkp hDj hpo
    show ∀ f ∈ [(20, [6, 7], [62, 1]), (20, [0, 4], [50, 1, 0, 0, 1, 3, 2, 0, 0, 1, 1])], fc_1 PRD f (w_out P ws ++ u.2) ((([(Value.ref o0), (Value.ref o1)] ++ [g0, g1, g2, g3]) ++ [Value.ref aH, vG]) ++ r.toList)
    have hDu0 := vd_right hDj
    have hpk : ∀ f ∈ [(20, [0], [60, 2, 3, 670, 0, 1, 14, 7, 8]), (20, [0], [60, 2, 2, 596, 0, 1, 7, 8]), (20, [0], [60, 2, 1, 739, 17, 18, 16]), (20, [0], [50, 1, 0, 17, 1, 3, 2, 0, 17, 0, 0]), (20, [0], [50, 1, 0, 18, 1, 3, 2, 0, 18, 0, 0]), (20, [0, 4], [50, 1, 0, 0, 1, 3, 2, 0, 0, 1, 1])], fc_1 PRD f u.2 ((([(Value.ref o0), (Value.ref o1)] ++ [g0, g1, g2, g3]) ++ []) ++ r.toList) := hpo.1
    have kq0 : fc_1 PRD (20, [0, 4], [50, 1, 0, 0, 1, 3, 2, 0, 0, 1, 1]) (w_out P ws ++ u.2) ([(Value.ref o0), (Value.ref o1)] ++ [g0, g1, g2, g3]) := tk_join (q := ([(0, 0)], [])) hDj rfl rfl ((al_cons (by obtain ⟨e0, he0, _⟩ := th_in hu (hle _ _ (t_in_of hP0 ho0)) (g := GG_3) rfl; exact ⟨e0, he0⟩) al_nil)) al_nil (fc_cut (xs := ([(Value.ref o0), (Value.ref o1)] ++ [g0, g1, g2, g3])) (ys := [] ++ r.toList) (show ∀ n ∈ [0, 4], n < 6 by decide) (by have z := hpk _ (List.mem_cons_of_mem _ (List.mem_cons_of_mem _ (List.mem_cons_of_mem _ (List.mem_cons_of_mem _ (List.mem_cons_of_mem _ List.mem_cons_self))))); exact fc_1_as (by simp only [List.append_assoc]) z))
    refine al_cons (fc_ext ⟨(show ∀ n ∈ [6, 7], n < 8 by decide), ?_⟩) (al_cons (fc_ext ⟨(show ∀ n ∈ [0, 4], n < 8 by decide), kq0.2⟩) al_nil)
    show WQF 1 [.ref aH, vG] (w_out P ws ++ u.2)
    have hx := fr_HX hD hth hG hH hgH hc hg (HI_X hI) hP hDj hle hu
    obtain ⟨f1, f2, _⟩ := fr_in hD hth hH hc hg hP hDj hle hu (f := 0) (by omega) (by decide)
    rw [← hoo] at f1 f2
    have hDu := vd_right hDj
    have hpo_zq : ∀ f ∈ [(20, [0], [60, 2, 3, 670, 0, 1, 14, 7, 8]), (20, [0], [60, 2, 2, 596, 0, 1, 7, 8]), (20, [0], [60, 2, 1, 739, 17, 18, 16]), (20, [0], [50, 1, 0, 17, 1, 3, 2, 0, 17, 0, 0]), (20, [0], [50, 1, 0, 18, 1, 3, 2, 0, 18, 0, 0]), (20, [0, 4], [50, 1, 0, 0, 1, 3, 2, 0, 0, 1, 1])], fc_1 PRD f u.2 ((([(Value.ref o0), (Value.ref o1)] ++ [g0, g1, g2, g3]) ++ []) ++ r.toList) := hpo.1
    obtain ⟨po0, hpo_zq⟩ := List.forall_mem_cons.mp hpo_zq
    have zGNB : GNB (w_fi u.2 (Value.ref o0) 0) (w_fi u.2 (Value.ref o0) 1) (w_ei u.2 (w_ar u.2 (Value.ref o0) 14)) (w_ei u.2 (w_ar u.2 (Value.ref o0) 7)) (w_ei u.2 (w_ar u.2 (Value.ref o0) 8)) := (fc_cut (xs := (([(Value.ref o0), (Value.ref o1)] ++ [g0, g1, g2, g3]) ++ [])) (show ∀ n ∈ [0], n < 6 by decide) po0).2
    obtain ⟨po1, hpo_zq⟩ := List.forall_mem_cons.mp hpo_zq
    have zGKE : GKE (w_fi u.2 (Value.ref o0) 0) (w_fi u.2 (Value.ref o0) 1) (w_ei u.2 (w_ar u.2 (Value.ref o0) 7)) (w_ei u.2 (w_ar u.2 (Value.ref o0) 8)) := (fc_cut (xs := (([(Value.ref o0), (Value.ref o1)] ++ [g0, g1, g2, g3]) ++ [])) (show ∀ n ∈ [0], n < 6 by decide) po1).2
    obtain ⟨po2, hpo_zq⟩ := List.forall_mem_cons.mp hpo_zq
    have zPDQ : PDQ (w_fi u.2 (Value.ref o0) 17) (w_fi u.2 (Value.ref o0) 18) (w_ei u.2 (w_ar u.2 (Value.ref o0) 16)) := (fc_cut (xs := (([(Value.ref o0), (Value.ref o1)] ++ [g0, g1, g2, g3]) ++ [])) (show ∀ n ∈ [0], n < 6 by decide) po2).2
    obtain ⟨po3, hpo_zq⟩ := List.forall_mem_cons.mp hpo_zq
    have zz17 : w_fi u.2 (Value.ref o0) 17 = 0 := (fc_cut (xs := (([(Value.ref o0), (Value.ref o1)] ++ [g0, g1, g2, g3]) ++ [])) (show ∀ n ∈ [0], n < 6 by decide) po3).2
    obtain ⟨po4, hpo_zq⟩ := List.forall_mem_cons.mp hpo_zq
    have zz18 : w_fi u.2 (Value.ref o0) 18 = 0 := (fc_cut (xs := (([(Value.ref o0), (Value.ref o1)] ++ [g0, g1, g2, g3]) ++ [])) (show ∀ n ∈ [0], n < 6 by decide) po4).2
    obtain ⟨po5, hpo_zq⟩ := List.forall_mem_cons.mp hpo_zq
    have zDU : w_fi u.2 (Value.ref o0) 17 + w_fi u.2 (Value.ref o0) 18 ≤ 30 := by omega
    obtain ⟨d7, hd7⟩ := fd_some hDu hu f1 hr0 (by decide) (k := 7) rfl rfl
    obtain ⟨d8, hd8⟩ := fd_some hDu hu f1 hr0 (by decide) (k := 8) rfl rfl
    obtain ⟨d14, hd14⟩ := fd_some hDu hu f1 hr0 (by decide) (k := 14) rfl rfl
    have hGu : HG u.2 o0 := GT_HG (x := Value.ref o0) rfl ⟨zGKE, zGNB, zDU, zPDQ⟩ hd7 hd8 hd14 (fun _ => by omega)
    have eo : pO (w_out P ws ++ u.2) (.ref aH) 0 (v_iv vG).toNat = o0 := by rw [pO_eq (fr_ot hD hth hG hH hgH hc hI.1 hg hP hDj).1 (f := 0) (by omega) hg]; exact hoo.symm
    exact ⟨hg0, hg1, hx, fun _ => by rw [eo]; exact HG_eq f2 hGu, fun q => absurd q (by decide), fun q => absurd q (by decide), fun q => absurd q (by decide), fun q => absurd q (by decide), trivial⟩
def e_Gr_step_f : en_T := ([(2, 0, 0, [3]), (0, -2147483648, 2147483647, [])], some (0, 0, 1, []), false, 9, 0, 0, [], [((0, 16), (3, 0, 0, [61]))], (1801158375971487744, [(3, 0), (3, 1), (3, 17), (3, 18)], [(20, [3, 4, 0], [62, 71])], [(20, [3, 4, 5], [62, 17])], [(2, 0, 0, [12]), (0, 0, 3, [])]))
theorem cf_Gr_step {l : Launch} {D : va_G} {kA : Nat → ClassId} (h_Gr_step : ct_ok PRD l D kA GG y_Gr_step z_Gr_step e_Gr_step) : ct_ok PRD l D kA GG y_Gr_step z_Gr_step e_Gr_step_f := by
  refine ct_frame2 h_Gr_step rfl rfl rfl rfl rfl rfl rfl rfl rfl (fun ta ws av gv hv hD hth hag hgv hhv hpr => ?_)
  obtain ⟨x0, x1, rfl⟩ := ln_2 (ag_lenP hag)
  obtain ⟨g0, rfl⟩ := ln_1 (gv_lenP hgv)
  obtain ⟨vH, vG, rfl⟩ := ln_2 (ag_lenP hhv)
  have tH : tv_ok ta (2, 0, 0, [12]) vH := hhv.1
  have t0 : tv_ok ta (2, 0, 0, [3]) x0 := hag.1
  have t1 : tv_ok ta (0, -2147483648, 2147483647, []) x1 := hag.2.1
  obtain ⟨o0, ro0, rfl, ho0, hq0⟩ := tv_ref t0 rfl
  obtain rfl := List.mem_singleton.mp hq0
  obtain ⟨aH, rh, rfl, hH, hH2⟩ := tv_ref tH rfl
  obtain rfl := List.mem_singleton.mp hH2
  have hH : ta (v_ad (Value.ref aH)) = some rH := hH
  have hpr_zq : ∀ f ∈ [(20, [3, 4, 0], [62, 71])], fc_1 PRD f ws (([Value.ref o0, x1] ++ [g0]) ++ [Value.ref aH, vG]) := hpr
  obtain ⟨pf0, hpr_zq⟩ := List.forall_mem_cons.mp hpr_zq
  have hW : WQF 71 [.ref aH, vG, .ref o0] ws := pf0.2
  obtain ⟨hg0, hg1, hX0, hw1, hw2, hw3, _, _, hl⟩ := hW
  have hg : (v_iv vG).toNat < 4 := by omega
  have hPl : HP ws (.ref aH) (v_iv vG).toNat := ⟨hw1 (by decide), hw2 (by decide), hw3 (by decide)⟩
  have hoo : o0 = pO ws (.ref aH) 0 (v_iv vG).toNat := hl.1.resolve_left (by decide)
  have hG := ro_none (G := GG) (by decide +kernel)
  have hc : fr_chk GG S0 [0, 1, 2] = true := by decide +kernel
  have hgH : ∃ gg, GG[rH]? = some gg := ⟨GG_12, rfl⟩
  have hs : hs_chk GG = true := by decide +kernel
  obtain ⟨o1, hoo1⟩ : ∃ o1, o1 = pO ws (.ref aH) 1 (v_iv vG).toNat := ⟨_, rfl⟩
  obtain ⟨o2, hoo2⟩ : ∃ o2, o2 = pO ws (.ref aH) 2 (v_iv vG).toNat := ⟨_, rfl⟩
  have ho1 : ta o1 = some 2 := by rw [hoo1]; obtain ⟨_, _, _, _, _, _, z⟩ := pO_ty hD hth hs hH (f := 1) (by omega); exact z _ hg
  have ho2 : ta o2 = some 5 := by rw [hoo2]; obtain ⟨_, _, _, _, _, _, z⟩ := pO_ty hD hth hs hH (f := 2) (by omega); exact z _ hg
  obtain ⟨P, hP⟩ : ∃ P, P = fr_P kA S0 ta ws ([0, 1, 2].map (fun f => pO ws (.ref aH) f (v_iv vG).toNat)) := ⟨_, rfl⟩
  have hcl : ∀ a r g e, ta a = some r → GG[r]? = some g → (a, e) ∈ ws → P a = true → rg_ok kA ta g e → rg_ok kA (t_in P ta) g e := by
    rw [hP]
    refine fr_cl hth hD hG (by decide +kernel) (fun z hz => ?_)
    rcases List.mem_cons.mp hz with q | hz
    · exact ⟨3, by rw [q]; show ta (pO ws (.ref aH) 0 (v_iv vG).toNat) = some 3; rw [← hoo]; exact ho0, by decide +kernel⟩
    rcases List.mem_cons.mp hz with q | hz
    · exact ⟨2, by rw [q]; show ta (pO ws (.ref aH) 1 (v_iv vG).toNat) = some 2; rw [← hoo1]; exact ho1, by decide +kernel⟩
    · have q := List.mem_singleton.mp hz
      exact ⟨5, by rw [q]; show ta (pO ws (.ref aH) 2 (v_iv vG).toNat) = some 5; rw [← hoo2]; exact ho2, by decide +kernel⟩
  have hro : ∀ r, ro_id r = true → P (kA r) = true := fun r hr => by rw [hP]; exact fr_ro r hr
  have hP0 : P o0 = true := by rw [hP]; exact fr_P_iff.mpr (Or.inr (Or.inl (by rw [hoo]; exact List.mem_cons_self)))
  have hP1 : P o1 = true := by rw [hP]; exact fr_P_iff.mpr (Or.inr (Or.inl (by rw [hoo1]; exact List.mem_cons_of_mem _ List.mem_cons_self)))
  have hP2 : P o2 = true := by rw [hP]; exact fr_P_iff.mpr (Or.inr (Or.inl (by rw [hoo2]; exact List.mem_cons_of_mem _ (List.mem_cons_of_mem _ List.mem_cons_self))))
  have hr0 : GG[3]? = some GG_3 := rfl
  have hr1 : GG[2]? = some GG_2 := rfl
  have hr2 : GG[5]? = some GG_5 := rfl
  have hf0 : ∀ k c, w_fd ws o0 k = .ref c → P c = true := fun k c hk => cl_fd hD hth hcl ho0 hr0 hP0 hk
  have hf1 : ∀ k c, w_fd ws o1 k = .ref c → P c = true := fun k c hk => cl_fd hD hth hcl ho1 hr1 hP1 hk
  have hf2 : ∀ k c, w_fd ws o2 k = .ref c → P c = true := fun k c hk => cl_fd hD hth hcl ho2 hr2 hP2 hk
  have hav : ∀ b, Value.ref b ∈ [Value.ref o0, x1] → P b = true ∧ ∀ k c, w_fd ws b k = .ref c → P c = true := fun b hb => by
    rcases List.mem_cons.mp hb with z | hb
    · injection z with z; subst z; exact ⟨hP0, hf0⟩
    · have z := List.mem_singleton.mp hb
      exact absurd z.symm (no_ref t1 rfl)
  have hs17 : 0 ≤ fI ws o0 17 ∧ fI ws o0 17 ≤ 30 := tv_rng (th_fd hD hth ho0 hr0 (k := 17) (t := (0, 0, 30, [])) rfl rfl)
  have hs18 : 0 ≤ fI ws o0 18 ∧ fI ws o0 18 ≤ 30 := tv_rng (th_fd hD hth ho0 hr0 (k := 18) (t := (0, 0, 30, [])) rfl rfl)
  obtain ⟨xs, hxs, txs⟩ := iv_ex (ta := t_in P ta) (lo := 0) (hi := 60) (z := fI ws o0 17 + fI ws o0 18) (by omega) (by omega) (by omega) (by omega)
  have gi : ob_eq (pF 0) (pA 0) o0 ws (w_in P ws) := ob_in hP0 (fun k _ d hd => hf0 k d hd)
  have fi : ob_eq (pF 1) (pA 1) o1 ws (w_in P ws) := ob_in hP1 (fun k _ d hd => hf1 k d hd)
  have mi : ob_eq (pF 2) (pA 2) o2 ws (w_in P ws) := ob_in hP2 (fun k _ d hd => hf2 k d hd)
  have r1 : tv_ok (t_in P ta) (2, 0, 0, [2]) (Value.ref o1) := Or.inr (Or.inr (Or.inl ⟨rfl, o1, 2, rfl, t_in_of hP1 ho1, List.mem_singleton.mpr rfl⟩))
  have r2 : tv_ok (t_in P ta) (2, 0, 0, [5]) (Value.ref o2) := Or.inr (Or.inr (Or.inl ⟨rfl, o2, 5, rfl, t_in_of hP2 ho2, List.mem_singleton.mpr rfl⟩))
  refine ⟨P, [g0], [Value.ref o1, Value.ref o2, Value.int xs], hro, hcl, ag_in hag (fun b hb => (hav b hb).1), gv_in hD (fun b hb => (hav b hb).1) (fun b hb => (hav b hb).2) hgv, ⟨r1, r2, txs, trivial⟩, ?_, ?_⟩
  · have hGi : HG (w_in P ws) o0 := HG_eq gi (by rw [hoo]; exact hPl.1)
    have hn : w_fd (w_in P ws) o0 16 = .null ∨ ∃ d, w_fd (w_in P ws) o0 16 = .ref d := by rw [w_fd_in hP0]; exact fd_null hD hth ho0 hr0 (by decide) (k := 16) rfl rfl
    obtain ⟨q1, q2, q3, q4⟩ := GT_of (x := Value.ref o0) rfl hGi hn
    have q5 : FT (w_in P ws) (Value.ref o0) (Value.ref o1) (Value.ref o2) := FT_of (HF_eq gi fi (by rw [hoo, hoo1]; exact hPl.2.1)) (HN_eq gi mi (by rw [hoo, hoo2]; exact hPl.2.2))
    show ∀ f ∈ [(20, [0], [50, 2, 0, 17, 18, 0, 8, 4, 3, 2, 0, 17, 2, 0, 18, 0, 30]), (20, [0], [60, 2, 1, 739, 17, 18, 16]), (20, [0], [60, 2, 2, 596, 0, 1, 7, 8]), (20, [0], [60, 2, 3, 670, 0, 1, 14, 7, 8]), (20, [0, 5], [50, 2, 0, 17, 18, 1, 8, 4, 3, 2, 0, 17, 2, 0, 18, 1, 1]), (20, [0, 3, 4], [60, 9, 8, 745, 0, 1, 1000, 1001, 1002, 2000, 2003, 2005, 2006, 14, 7, 8, 1004, 1009, 2009, 2012, 2016])], fc_1 PRD f (w_in P ws) (([Value.ref o0, x1] ++ [g0]) ++ [Value.ref o1, Value.ref o2, Value.int xs])
    refine al_cons ⟨(show ∀ n ∈ [0], n < 6 by decide), q3⟩ ?_
    refine al_cons ⟨(show ∀ n ∈ [0], n < 6 by decide), q4⟩ ?_
    refine al_cons ⟨(show ∀ n ∈ [0], n < 6 by decide), q1⟩ ?_
    refine al_cons ⟨(show ∀ n ∈ [0], n < 6 by decide), q2⟩ ?_
    refine al_cons ⟨(show ∀ n ∈ [0, 5], n < 6 by decide), (show w_fi (w_in P ws) (Value.ref o0) 17 + w_fi (w_in P ws) (Value.ref o0) 18 = xs.toInt by rw [hxs]; show v_iv (w_fd (w_in P ws) o0 17) + v_iv (w_fd (w_in P ws) o0 18) = _; rw [w_fd_in hP0, w_fd_in hP0])⟩ ?_
    refine al_cons ⟨(show ∀ n ∈ [0, 3, 4], n < 6 by decide), q5⟩ ?_
    exact al_nil
  · intro u tb r hle hu htb le1 le2 hkp hDj hpo
    show ∀ f ∈ [(20, [3, 4, 5], [62, 17])], fc_1 PRD f (w_out P ws ++ u.2) ((([Value.ref o0, x1] ++ [g0]) ++ [Value.ref aH, vG]) ++ r.toList)
    have hpo_zq : ∀ f ∈ [(20, [0], [50, 2, 0, 17, 18, 0, 8, 4, 3, 2, 0, 17, 2, 0, 18, 0, 30]), (20, [0], [60, 2, 1, 739, 17, 18, 16]), (20, [0], [60, 2, 2, 596, 0, 1, 7, 8]), (20, [0], [60, 2, 3, 670, 0, 1, 14, 7, 8]), (20, [0, 5], [50, 2, 0, 17, 18, 1, 8, 4, 3, 2, 0, 17, 2, 0, 18, 1, 1]), (20, [0, 3, 4, 6], [60, 9, 8, 746, 0, 1, 1000, 1001, 1002, 2000, 2003, 2005, 2006, 14, 7, 8, 1004, 1009, 2009, 2012, 2016])], fc_1 PRD f u.2 ((([Value.ref o0, x1] ++ [g0]) ++ [Value.ref o1, Value.ref o2, Value.int xs]) ++ r.toList) := hpo.1
    obtain ⟨po0, hpo_zq⟩ := List.forall_mem_cons.mp hpo_zq
    obtain ⟨po1, hpo_zq⟩ := List.forall_mem_cons.mp hpo_zq
    obtain ⟨po2, hpo_zq⟩ := List.forall_mem_cons.mp hpo_zq
    obtain ⟨po3, hpo_zq⟩ := List.forall_mem_cons.mp hpo_zq
    obtain ⟨po4, hpo_zq⟩ := List.forall_mem_cons.mp hpo_zq
    obtain ⟨po5, hpo_zq⟩ := List.forall_mem_cons.mp hpo_zq
    obtain ⟨va, rfl⟩ : ∃ va, r = some va := by
      cases r with
      | none => have q := po5.1 6 (by decide); have q2 : (6 : Nat) < 6 := q; omega
      | some va => exact ⟨va, rfl⟩
    refine al_cons ⟨(show ∀ n ∈ [3, 4, 5], n < 6 by decide), ?_⟩ al_nil
    show WQF 17 [.ref aH, vG, va] (w_out P ws ++ u.2)
    have hx := fr_HX hD hth hG hH hgH hc hg hX0 hP hDj hle hu
    obtain ⟨e1, e2, _⟩ := fr_in hD hth hH hc hg hP hDj hle hu (f := 0) (by omega) (by decide)
    obtain ⟨f1, f2, _⟩ := fr_in hD hth hH hc hg hP hDj hle hu (f := 1) (by omega) (by decide)
    obtain ⟨m1, m2, _⟩ := fr_in hD hth hH hc hg hP hDj hle hu (f := 2) (by omega) (by decide)
    obtain ⟨i1, i2⟩ := fr_ot hD hth hG hH hgH hc hX0.1 hg hP hDj
    rw [← hoo] at e1 e2
    rw [← hoo1] at f1 f2
    rw [← hoo2] at m1 m2
    have hDu := vd_right hDj
    have zDU : w_fi u.2 (Value.ref o0) 17 + w_fi u.2 (Value.ref o0) 18 ≤ 30 := (fc_cut (xs := (([Value.ref o0, x1] ++ [g0]) ++ [Value.ref o1, Value.ref o2, Value.int xs])) (show ∀ n ∈ [0], n < 6 by decide) po0).2
    have zPDQ : PDQ (w_fi u.2 (Value.ref o0) 17) (w_fi u.2 (Value.ref o0) 18) (w_ei u.2 (w_ar u.2 (Value.ref o0) 16)) := (fc_cut (xs := (([Value.ref o0, x1] ++ [g0]) ++ [Value.ref o1, Value.ref o2, Value.int xs])) (show ∀ n ∈ [0], n < 6 by decide) po1).2
    have zGKE : GKE (w_fi u.2 (Value.ref o0) 0) (w_fi u.2 (Value.ref o0) 1) (w_ei u.2 (w_ar u.2 (Value.ref o0) 7)) (w_ei u.2 (w_ar u.2 (Value.ref o0) 8)) := (fc_cut (xs := (([Value.ref o0, x1] ++ [g0]) ++ [Value.ref o1, Value.ref o2, Value.int xs])) (show ∀ n ∈ [0], n < 6 by decide) po2).2
    have zGNB : GNB (w_fi u.2 (Value.ref o0) 0) (w_fi u.2 (Value.ref o0) 1) (w_ei u.2 (w_ar u.2 (Value.ref o0) 14)) (w_ei u.2 (w_ar u.2 (Value.ref o0) 7)) (w_ei u.2 (w_ar u.2 (Value.ref o0) 8)) := (fc_cut (xs := (([Value.ref o0, x1] ++ [g0]) ++ [Value.ref o1, Value.ref o2, Value.int xs])) (show ∀ n ∈ [0], n < 6 by decide) po3).2
    have zs : w_fi u.2 (Value.ref o0) 17 + w_fi u.2 (Value.ref o0) 18 = xs.toInt := (fc_cut (xs := (([Value.ref o0, x1] ++ [g0]) ++ [Value.ref o1, Value.ref o2, Value.int xs])) (show ∀ n ∈ [0, 5], n < 6 by decide) po4).2
    have zFA : v_iv va = 0 → FT u.2 (Value.ref o0) (Value.ref o1) (Value.ref o2) := po5.2
    obtain ⟨d7, hd7⟩ := fd_some hDu hu e1 hr0 (by decide) (k := 7) rfl rfl
    obtain ⟨d8, hd8⟩ := fd_some hDu hu e1 hr0 (by decide) (k := 8) rfl rfl
    obtain ⟨d14, hd14⟩ := fd_some hDu hu e1 hr0 (by decide) (k := 14) rfl rfl
    obtain ⟨p4, hp4⟩ := fd_some hDu hu f1 hr1 (by decide) (k := 4) rfl rfl
    obtain ⟨p9, hp9⟩ := fd_some hDu hu f1 hr1 (by decide) (k := 9) rfl rfl
    obtain ⟨n9, hn9⟩ := fd_some hDu hu m1 hr2 (by decide) (k := 9) rfl rfl
    obtain ⟨n12, hn12⟩ := fd_some hDu hu m1 hr2 (by decide) (k := 12) rfl rfl
    obtain ⟨n16, hn16⟩ := fd_some hDu hu m1 hr2 (by decide) (k := 16) rfl rfl
    have h16 : w_fd u.2 o0 16 = w_fd (w_in P ws) o0 16 := kp_fd (vd_filter hD (fun _ _ _ => trivial)) hDu (th_part hth hro hcl) hkp (t_in_of hP0 ho0) (by decide +kernel)
    rw [w_fd_in hP0] at h16
    have hGu : HG u.2 o0 := GT_HG (x := Value.ref o0) rfl ⟨zGKE, zGNB, zDU, zPDQ⟩ hd7 hd8 hd14 (fun hz => by
      rw [h16] at hz
      have q := hPl.1.2.2.2 (by rw [← hoo]; exact hz)
      rw [← hoo] at q
      rw [zs, hxs]; exact q)
    have hG1 : HG (w_out P ws ++ u.2) o0 := HG_eq e2 hGu
    refine ⟨hg0, hg1, hx, fun _ => ?_, fun q => absurd q (by decide), fun q => absurd q (by decide), fun q => absurd q (by decide), fun _ => ⟨fun _ hv0 => ?_, fun q => absurd q (by decide)⟩, ⟨Or.inl rfl, trivial⟩⟩
    · rw [pO_eq i1 (f := 0) (by omega) hg, ← hoo]; exact hG1
    · have hv0 : v_iv va = 0 := hv0
      obtain ⟨b1, b2⟩ := of_FT (x := Value.ref o0) (f := Value.ref o1) (m := Value.ref o2) (zFA hv0) hd14 hp4 hd7 hd8 hp9 hn9 hn12 hn16
      refine HX_I hx ⟨?_, ?_, ?_⟩
      · rw [pO_eq i1 (f := 0) (by omega) hg, ← hoo]; exact hG1
      · rw [pO_eq i1 (f := 0) (by omega) hg, pO_eq i1 (f := 1) (by omega) hg, ← hoo, ← hoo1]; exact HF_eq e2 f2 b1
      · rw [pO_eq i1 (f := 0) (by omega) hg, pO_eq i1 (f := 2) (by omega) hg, ← hoo, ← hoo2]; exact HN_eq e2 m2 b2
def e_Ne_forget_f : en_T := ([(2, 0, 0, [5])], none, false, 6, 0, 0, [], [], (0, [(5, 0), (5, 1), (5, 2), (5, 3)], [(20, [1, 2, 0], [62, 201])], [(20, [1], [62, 0])], [(2, 0, 0, [12]), (0, 0, 3, [])]))
theorem cf_Ne_forget {l : Launch} {D : va_G} {kA : Nat → ClassId} (h_Ne_forget : ct_ok PRD l D kA GG y_Ne_forget z_Ne_forget e_Ne_forget) : ct_ok PRD l D kA GG y_Ne_forget z_Ne_forget e_Ne_forget_f := by
  refine ct_frame2 h_Ne_forget rfl rfl rfl rfl rfl rfl rfl rfl rfl (fun ta ws av gv hv hD hth hag hgv hhv hpr => ?_)
  obtain ⟨x0, rfl⟩ := ln_1 (ag_lenP hag)
  obtain rfl := ln_0 (gv_lenP hgv)
  obtain ⟨vH, vG, rfl⟩ := ln_2 (ag_lenP hhv)
  have tH : tv_ok ta (2, 0, 0, [12]) vH := hhv.1
  have t0 : tv_ok ta (2, 0, 0, [5]) x0 := hag.1
  obtain ⟨o0, ro0, rfl, ho0, hq0⟩ := tv_ref t0 rfl
  obtain rfl := List.mem_singleton.mp hq0
  obtain ⟨aH, rh, rfl, hH, hH2⟩ := tv_ref tH rfl
  obtain rfl := List.mem_singleton.mp hH2
  have hH : ta (v_ad (Value.ref aH)) = some rH := hH
  have hpr_zq : ∀ f ∈ [(20, [1, 2, 0], [62, 201])], fc_1 PRD f ws (([Value.ref o0] ++ []) ++ [Value.ref aH, vG]) := hpr
  obtain ⟨pf0, hpr_zq⟩ := List.forall_mem_cons.mp hpr_zq
  have hW : WQF 201 [.ref aH, vG, .ref o0] ws := pf0.2
  obtain ⟨hg0, hg1, hX0, hw1, _, _, hw8, _, hl⟩ := hW
  have hg : (v_iv vG).toNat < 4 := by omega
  have hoo : o0 = pO ws (.ref aH) 2 (v_iv vG).toNat := hl.1.resolve_left (by decide)
  have hG := ro_none (G := GG) (by decide +kernel)
  have hc : fr_chk GG S0 [2] = true := by decide +kernel
  have hgH : ∃ gg, GG[rH]? = some gg := ⟨GG_12, rfl⟩
  obtain ⟨P, hP⟩ : ∃ P, P = fr_P kA S0 ta ws ([2].map (fun f => pO ws (.ref aH) f (v_iv vG).toNat)) := ⟨_, rfl⟩
  have hcl : ∀ a r g e, ta a = some r → GG[r]? = some g → (a, e) ∈ ws → P a = true → rg_ok kA ta g e → rg_ok kA (t_in P ta) g e := by
    rw [hP]
    refine fr_cl hth hD hG (by decide +kernel) (fun z hz => ?_)
    obtain rfl := List.mem_singleton.mp hz
    exact ⟨5, by show ta (pO ws (.ref aH) 2 (v_iv vG).toNat) = some 5; rw [← hoo]; exact ho0, by decide +kernel⟩
  have hP0 : P o0 = true := by rw [hP]; exact fr_P_iff.mpr (Or.inr (Or.inl (by rw [hoo]; exact List.mem_cons_self)))
  have hr0 : GG[5]? = some GG_5 := rfl
  have hf0 : ∀ k c, w_fd ws o0 k = .ref c → P c = true := fun k c hk => cl_fd hD hth hcl ho0 hr0 hP0 hk
  have hav : ∀ b, Value.ref b ∈ [Value.ref o0] → P b = true ∧ ∀ k c, w_fd ws b k = .ref c → P c = true := fun b hb => by
    have z := List.mem_singleton.mp hb
    injection z with z; subst z; exact ⟨hP0, hf0⟩
  refine ⟨P, [], [], fun r hr => by rw [hP]; exact fr_ro r hr, hcl, ag_in hag (fun b hb => (hav b hb).1), gv_in hD (fun b hb => (hav b hb).1) (fun b hb => (hav b hb).2) hgv, trivial, al_nil, ?_⟩
  intro u tb r hle hu htb le1 le2 hkp hDj hpo
  show ∀ f ∈ [(20, [1], [62, 0])], fc_1 PRD f (w_out P ws ++ u.2) ((([Value.ref o0] ++ []) ++ [Value.ref aH, vG]) ++ r.toList)
  refine al_cons (fc_ext ⟨(show ∀ n ∈ [1], n < 3 by decide), ?_⟩) al_nil
  show HI (w_out P ws ++ u.2) (.ref aH)
  have hx := fr_HX hD hth hG hH hgH hc hg hX0 hP hDj hle hu
  obtain ⟨f1, f2, _⟩ := fr_in hD hth hH hc hg hP hDj hle hu (f := 2) (by omega) (by decide)
  obtain ⟨i1, i2⟩ := fr_ot hD hth hG hH hgH hc hX0.1 hg hP hDj
  rw [← hoo] at f1 f2
  have hpo_zq : ∀ f ∈ [(20, [0], [50, 1, 0, 0, 1, 3, 2, 0, 0, 0, -1]), (20, [0], [50, 1, 0, 3, 1, 3, 2, 0, 3, 0, 0])], fc_1 PRD f u.2 (([Value.ref o0] ++ []) ++ [] ++ r.toList) := hpo.1
  obtain ⟨po0, hpo_zq⟩ := List.forall_mem_cons.mp hpo_zq
  obtain ⟨po1, hpo_zq⟩ := List.forall_mem_cons.mp hpo_zq
  have z0 : w_fi u.2 (Value.ref o0) 0 = -1 := (fc_cut (xs := ([Value.ref o0] ++ []) ++ []) (show ∀ n ∈ [0], n < 1 by decide) po0).2
  have z3 : w_fi u.2 (Value.ref o0) 3 = 0 := (fc_cut (xs := ([Value.ref o0] ++ []) ++ []) (show ∀ n ∈ [0], n < 1 by decide) po1).2
  have y0 : fI (w_out P ws ++ u.2) o0 0 = -1 := by rw [fI_eq f2 (k := 0) (by decide)]; exact z0
  have y3 : fI (w_out P ws ++ u.2) o0 3 = 0 := by rw [fI_eq f2 (k := 3) (by decide)]; exact z3
  refine HX_I hx ⟨?_, ?_, ?_⟩
  · rw [pO_eq i1 (f := 0) (by omega) hg]; exact HG_eq (i2 0 (by omega) _ hg (Or.inr (by decide))) (hw1 (by decide))
  · refine Or.inl ?_
    rw [pO_eq i1 (f := 1) (by omega) hg, fI_eq (i2 1 (by omega) _ hg (Or.inr (by decide))) (k := 0) (by decide)]; exact hw8 (by decide)
  · rw [pO_eq i1 (f := 2) (by omega) hg, ← hoo]
    exact ⟨fun _ => y3, fun q => by rw [y0] at q; exact absurd q (by decide)⟩
def e_Ne_load_at_Ne_f : en_T := ([(2, 0, 0, [5]), (2, 0, 0, [3])], none, false, 7, 0, 0, [], [], (56819513521887571211190272, [(5, 5), (5, 6), (5, 13)], [(20, [2, 3, 0, 1], [62, 455]), (20, [0], [50, 1, 0, 0, 1, 3, 2, 0, 0, 0, -1])], [(20, [2, 3, 0], [62, 243]), (20, [0], [60, 2, 3, 595, 5, 6, 7, 8, 9])], [(2, 0, 0, [12]), (0, 0, 3, [])]))
theorem cf_Ne_load_at_Ne {l : Launch} {D : va_G} {kA : Nat → ClassId} (h_Ne_load_at_Ne : ct_ok PRD l D kA GG y_Ne_load_at_Ne z_Ne_load_at_Ne e_Ne_load_at_Ne) : ct_ok PRD l D kA GG y_Ne_load_at_Ne z_Ne_load_at_Ne e_Ne_load_at_Ne_f := by
  refine ct_frame2 h_Ne_load_at_Ne rfl rfl rfl rfl rfl rfl rfl rfl rfl (fun ta ws av gv hv hD hth hag hgv hhv hpr => ?_)
  obtain ⟨x0, x1, rfl⟩ := ln_2 (ag_lenP hag)
  obtain rfl := ln_0 (gv_lenP hgv)
  obtain ⟨vH, vG, rfl⟩ := ln_2 (ag_lenP hhv)
  have tH : tv_ok ta (2, 0, 0, [12]) vH := hhv.1
  have t0 : tv_ok ta (2, 0, 0, [5]) x0 := hag.1
  have t1 : tv_ok ta (2, 0, 0, [3]) x1 := hag.2.1
  obtain ⟨o0, ro0, rfl, ho0, hq0⟩ := tv_ref t0 rfl
  obtain rfl := List.mem_singleton.mp hq0
  obtain ⟨o1, ro1, rfl, ho1, hq1⟩ := tv_ref t1 rfl
  obtain rfl := List.mem_singleton.mp hq1
  obtain ⟨aH, rh, rfl, hH, hH2⟩ := tv_ref tH rfl
  obtain rfl := List.mem_singleton.mp hH2
  have hH : ta (v_ad (Value.ref aH)) = some rH := hH
  have hpr_zq : ∀ f ∈ [(20, [2, 3, 0, 1], [62, 455]), (20, [0], [50, 1, 0, 0, 1, 3, 2, 0, 0, 0, -1])], fc_1 PRD f ws (([Value.ref o0, Value.ref o1] ++ []) ++ [Value.ref aH, vG]) := hpr
  obtain ⟨pf0, hpr_zq⟩ := List.forall_mem_cons.mp hpr_zq
  obtain ⟨pf1, hpr_zq⟩ := List.forall_mem_cons.mp hpr_zq
  have hW : WQF 455 [.ref aH, vG, .ref o0, .ref o1] ws := pf0.2
  have zp : w_fi ws (Value.ref o0) 0 = -1 := pf1.2
  obtain ⟨hg0, hg1, hX0, hw1, hw2, hw3, _, _, hl⟩ := hW
  have hg : (v_iv vG).toNat < 4 := by omega
  have hPl : HP ws (.ref aH) (v_iv vG).toNat := ⟨hw1 (by decide), hw2 (by decide), hw3 (by decide)⟩
  have hoo : o0 = pO ws (.ref aH) 2 (v_iv vG).toNat := hl.1.resolve_left (by decide)
  have hoo1 : o1 = pO ws (.ref aH) 0 (v_iv vG).toNat := hl.2.1.resolve_left (by decide)
  have hG := ro_none (G := GG) (by decide +kernel)
  have hc : fr_chk GG S0 [2, 0] = true := by decide +kernel
  have hgH : ∃ gg, GG[rH]? = some gg := ⟨GG_12, rfl⟩
  obtain ⟨P, hP⟩ : ∃ P, P = fr_P kA S0 ta ws ([2, 0].map (fun f => pO ws (.ref aH) f (v_iv vG).toNat)) := ⟨_, rfl⟩
  have hcl : ∀ a r g e, ta a = some r → GG[r]? = some g → (a, e) ∈ ws → P a = true → rg_ok kA ta g e → rg_ok kA (t_in P ta) g e := by
    rw [hP]
    refine fr_cl hth hD hG (by decide +kernel) (fun z hz => ?_)
    rcases List.mem_cons.mp hz with q | hz
    · exact ⟨5, by rw [q]; show ta (pO ws (.ref aH) 2 (v_iv vG).toNat) = some 5; rw [← hoo]; exact ho0, by decide +kernel⟩
    · have q := List.mem_singleton.mp hz
      exact ⟨3, by rw [q]; show ta (pO ws (.ref aH) 0 (v_iv vG).toNat) = some 3; rw [← hoo1]; exact ho1, by decide +kernel⟩
  have hro : ∀ r, ro_id r = true → P (kA r) = true := fun r hr => by rw [hP]; exact fr_ro r hr
  have hP0 : P o0 = true := by rw [hP]; exact fr_P_iff.mpr (Or.inr (Or.inl (by rw [hoo]; exact List.mem_cons_self)))
  have hP1 : P o1 = true := by rw [hP]; exact fr_P_iff.mpr (Or.inr (Or.inl (by rw [hoo1]; exact List.mem_cons_of_mem _ List.mem_cons_self)))
  have hr0 : GG[5]? = some GG_5 := rfl
  have hr1 : GG[3]? = some GG_3 := rfl
  have hf0 : ∀ k c, w_fd ws o0 k = .ref c → P c = true := fun k c hk => cl_fd hD hth hcl ho0 hr0 hP0 hk
  have hf1 : ∀ k c, w_fd ws o1 k = .ref c → P c = true := fun k c hk => cl_fd hD hth hcl ho1 hr1 hP1 hk
  have hav : ∀ b, Value.ref b ∈ [Value.ref o0, Value.ref o1] → P b = true ∧ ∀ k c, w_fd ws b k = .ref c → P c = true := fun b hb => by
    rcases List.mem_cons.mp hb with z | hb
    · injection z with z; subst z; exact ⟨hP0, hf0⟩
    · have z := List.mem_singleton.mp hb
      injection z with z; subst z; exact ⟨hP1, hf1⟩
  have gi : ob_eq (pF 0) (pA 0) o1 ws (w_in P ws) := ob_in hP1 (fun k _ d hd => hf1 k d hd)
  refine ⟨P, [], [], hro, hcl, ag_in hag (fun b hb => (hav b hb).1), gv_in hD (fun b hb => (hav b hb).1) (fun b hb => (hav b hb).2) hgv, trivial, ?_, ?_⟩
  · have hGi : HG (w_in P ws) o1 := HG_eq gi (by rw [hoo1]; exact hPl.1)
    have hn : w_fd (w_in P ws) o1 16 = .null ∨ ∃ d, w_fd (w_in P ws) o1 16 = .ref d := by rw [w_fd_in hP1]; exact fd_null hD hth ho1 hr1 (by decide) (k := 16) rfl rfl
    obtain ⟨q1, q2, q3, q4⟩ := GT_of (x := Value.ref o1) rfl hGi hn
    show ∀ f ∈ [(20, [1], [60, 2, 2, 596, 0, 1, 7, 8])], fc_1 PRD f (w_in P ws) (([Value.ref o0, Value.ref o1] ++ []) ++ [])
    refine al_cons ⟨(show ∀ n ∈ [1], n < 2 by decide), q1⟩ ?_
    exact al_nil
  · intro u tb r hle hu htb le1 le2 hkp hDj hpo
    show ∀ f ∈ [(20, [2, 3, 0], [62, 243]), (20, [0], [60, 2, 3, 595, 5, 6, 7, 8, 9])], fc_1 PRD f (w_out P ws ++ u.2) ((([Value.ref o0, Value.ref o1] ++ []) ++ [Value.ref aH, vG]) ++ r.toList)
    have hx := fr_HX hD hth hG hH hgH hc hg hX0 hP hDj hle hu
    obtain ⟨f1, f2, _⟩ := fr_in hD hth hH hc hg hP hDj hle hu (f := 2) (by omega) (by decide)
    obtain ⟨e1, e2, _⟩ := fr_in hD hth hH hc hg hP hDj hle hu (f := 0) (by omega) (by decide)
    obtain ⟨i1, i2⟩ := fr_ot hD hth hG hH hgH hc hX0.1 hg hP hDj
    rw [← hoo] at f1 f2
    rw [← hoo1] at e1 e2
    have hDu := vd_right hDj
    have gu : ob_eq (pF 0) (pA 0) o1 (w_in P ws) u.2 := kp_obC (vd_filter hD (fun _ _ _ => trivial)) hDu (th_part hth hro hcl) hkp (t_in_of hP1 ho1) (by decide +kernel)
    have gw := ob_trans (fun k hk => ar_in (f := 0) (by omega) hk) (ob_trans (fun k hk => ar_in (f := 0) (by omega) hk) gi gu) e2
    have n3 : w_fd u.2 o0 3 = w_fd (w_in P ws) o0 3 := kp_fd (vd_filter hD (fun _ _ _ => trivial)) hDu (th_part hth hro hcl) hkp (t_in_of hP0 ho0) (by decide +kernel)
    rw [w_fd_in hP0] at n3
    have hpo_zq : ∀ f ∈ [(20, [0], [60, 2, 3, 595, 5, 6, 7, 8, 9]), (20, [0, 1], [50, 2, 0, 5, 1000, 1, 3, 2, 0, 5, 2, 1, 0]), (20, [0, 1], [50, 2, 0, 6, 1001, 1, 3, 2, 0, 6, 2, 1, 1])], fc_1 PRD f u.2 (([Value.ref o0, Value.ref o1] ++ []) ++ [] ++ r.toList) := hpo.1
    obtain ⟨po0, hpo_zq⟩ := List.forall_mem_cons.mp hpo_zq
    obtain ⟨po1, hpo_zq⟩ := List.forall_mem_cons.mp hpo_zq
    have z5 : w_fi u.2 (Value.ref o0) 5 = w_fi u.2 (Value.ref o1) 0 := (fc_cut (xs := ([Value.ref o0, Value.ref o1] ++ []) ++ []) (show ∀ n ∈ [0, 1], n < 2 by decide) po1).2
    obtain ⟨po2, hpo_zq⟩ := List.forall_mem_cons.mp hpo_zq
    have z6 : w_fi u.2 (Value.ref o0) 6 = w_fi u.2 (Value.ref o1) 1 := (fc_cut (xs := ([Value.ref o0, Value.ref o1] ++ []) ++ []) (show ∀ n ∈ [0, 1], n < 2 by decide) po2).2
    refine al_cons (fc_ext ⟨(show ∀ n ∈ [2, 3, 0], n < 4 by decide), ?_⟩) (al_cons (fc_ext (fc_ext (tk_join (q := ([(0, 5), (0, 6)], [(0, 7), (0, 8), (0, 9)])) hDj rfl rfl ((al_cons (by obtain ⟨e0, he0, _⟩ := th_in hu f1 hr0; exact ⟨e0, he0⟩) (al_cons (by obtain ⟨e0, he0, _⟩ := th_in hu f1 hr0; exact ⟨e0, he0⟩) al_nil))) ((al_cons ⟨(by obtain ⟨e0, he0, _⟩ := th_in hu f1 hr0; exact ⟨e0, he0⟩), (by obtain ⟨d, rd, hd, td, md⟩ := tv_ref (fd_at hDu hu f1 (g := GG_5) rfl (k := 7) rfl (by decide)).1 rfl; obtain rfl := List.mem_singleton.mp md; obtain ⟨e0, he0, _⟩ := th_in hu td (g := GG_80) rfl; exact ⟨e0, (show (v_ad (w_fd u.2 o0 7), e0) ∈ u.2 by rw [hd]; exact he0)⟩)⟩ (al_cons ⟨(by obtain ⟨e0, he0, _⟩ := th_in hu f1 hr0; exact ⟨e0, he0⟩), (by obtain ⟨d, rd, hd, td, md⟩ := tv_ref (fd_at hDu hu f1 (g := GG_5) rfl (k := 8) rfl (by decide)).1 rfl; obtain rfl := List.mem_singleton.mp md; obtain ⟨e0, he0, _⟩ := th_in hu td (g := GG_81) rfl; exact ⟨e0, (show (v_ad (w_fd u.2 o0 8), e0) ∈ u.2 by rw [hd]; exact he0)⟩)⟩ (al_cons ⟨(by obtain ⟨e0, he0, _⟩ := th_in hu f1 hr0; exact ⟨e0, he0⟩), (by obtain ⟨d, rd, hd, td, md⟩ := tv_ref (fd_at hDu hu f1 (g := GG_5) rfl (k := 9) rfl (by decide)).1 rfl; obtain rfl := List.mem_singleton.mp md; obtain ⟨e0, he0, _⟩ := th_in hu td (g := GG_82) rfl; exact ⟨e0, (show (v_ad (w_fd u.2 o0 9), e0) ∈ u.2 by rw [hd]; exact he0)⟩)⟩ al_nil)))) (fc_cut (xs := ([Value.ref o0, Value.ref o1] ++ [])) (show ∀ n ∈ [0], n < 2 by decide) (by have z := po0; rw [List.append_assoc] at z; exact z))))) al_nil)
    show WQF 243 [.ref aH, vG, .ref o0] (w_out P ws ++ u.2)
    refine ⟨hg0, hg1, hx, fun _ => ?_, fun _ => ?_, fun q => absurd q (by decide), fun q => absurd q (by decide), fun _ => ⟨fun q => absurd q (by decide), fun _ => ?_⟩, ⟨Or.inr (by show o0 = pO (w_out P ws ++ u.2) (.ref aH) 2 (v_iv vG).toNat; rw [pO_eq i1 (f := 2) (by omega) hg]; exact hoo), trivial⟩⟩
    · rw [pO_eq i1 (f := 0) (by omega) hg, ← hoo1]; exact HG_eq gw (by rw [hoo1]; exact hPl.1)
    · rw [pO_eq i1 (f := 0) (by omega) hg, pO_eq i1 (f := 1) (by omega) hg, ← hoo1]; exact HF_eq gw (i2 1 (by omega) _ hg (Or.inr (by decide))) (by rw [hoo1]; exact hPl.2.1)
    · rw [pO_eq i1 (f := 0) (by omega) hg, pO_eq i1 (f := 2) (by omega) hg, ← hoo1, ← hoo]
      refine ⟨?_, ?_, ?_⟩
      · rw [fI_eq f2 (k := 5) (by decide), fI_eq e2 (k := 0) (by decide)]; exact z5
      · rw [fI_eq f2 (k := 6) (by decide), fI_eq e2 (k := 1) (by decide)]; exact z6
      · rw [fI_eq f2 (k := 3) (by decide)]
        show v_iv (w_fd u.2 o0 3) = 0
        rw [n3]
        have z := hPl.2.2.1 (by rw [← hoo]; exact zp)
        rw [← hoo] at z; exact z
def e_Re_readGraph_f : en_T := ([(2, 0, 0, [8]), (0, 0, 2000, [])], some (0, 0, 1, []), false, 12, 0, 0, [], [((0, 4), (2, 0, 0, [164]))], (11690585850954518683822635009467721794735159902208, [(8, 2), (8, 3), (8, 5), (8, 6), (8, 7), (8, 8), (8, 9), (8, 11), (164, 0), (164, 1), (164, 2), (164, 17), (164, 18)], [(20, [3], [62, 0])], [(20, [3], [62, 0]), (20, [2], [60, 2, 3, 670, 0, 1, 14, 7, 8]), (20, [2], [60, 2, 2, 596, 0, 1, 7, 8]), (20, [0, 2, 1, 4], [60, 4, 1, 1084, 5, 2, 3, 1000, 0])], [(2, 0, 0, [12])]))
theorem cf_Re_readGraph {l : Launch} {D : va_G} {kA : Nat → ClassId} (h_Re_readGraph : ct_ok PRD l D kA GG y_Re_readGraph z_Re_readGraph e_Re_readGraph) : ct_ok PRD l D kA GG y_Re_readGraph z_Re_readGraph e_Re_readGraph_f := by
  refine ct_frame2 h_Re_readGraph rfl rfl rfl rfl rfl rfl rfl rfl rfl (fun ta ws av gv hv hD hth hag hgv hhv hpr => ?_)
  obtain ⟨x0, x1, rfl⟩ := ln_2 (ag_lenP hag)
  obtain ⟨g0, rfl⟩ := ln_1 (gv_lenP hgv)
  obtain ⟨vH, rfl⟩ := ln_1 (ag_lenP hhv)
  have tH : tv_ok ta (2, 0, 0, [12]) vH := hhv.1
  have t0 : tv_ok ta (2, 0, 0, [8]) x0 := hag.1
  obtain ⟨o0, ro0, rfl, ho0, hq0⟩ := tv_ref t0 rfl
  obtain rfl := List.mem_singleton.mp hq0
  have t1 : tv_ok ta (0, 0, 2000, []) x1 := hag.2.1
  obtain ⟨aH, rh, rfl, hH, hH2⟩ := tv_ref tH rfl
  obtain rfl := List.mem_singleton.mp hH2
  have hH : ta (v_ad (Value.ref aH)) = some rH := hH
  have hpr_zq : ∀ f ∈ [(20, [3], [62, 0])], fc_1 PRD f ws (([(Value.ref o0), x1] ++ [g0]) ++ [Value.ref aH]) := hpr
  obtain ⟨pf0, hpr_zq⟩ := List.forall_mem_cons.mp hpr_zq
  have hI : HI ws (.ref aH) := pf0.2
  have hG := ro_none (G := GG) (by decide +kernel)
  have hc : fr_chk GG (fun r => decide (r = 8) || decide (r = 109) || decide (r = 110) || (decide (150 ≤ r) && decide (r ≤ 164))) [] = true := by decide +kernel
  have hgH : ∃ gg, GG[rH]? = some gg := ⟨GG_12, rfl⟩
  obtain ⟨P, hP⟩ : ∃ P, P = fr_P kA (fun r => decide (r = 8) || decide (r = 109) || decide (r = 110) || (decide (150 ≤ r) && decide (r ≤ 164))) ta ws (([] : List Nat).map (fun f => pO ws (.ref aH) f 0)) := ⟨_, rfl⟩
  have hcl : ∀ a r g e, ta a = some r → GG[r]? = some g → (a, e) ∈ ws → P a = true → rg_ok kA ta g e → rg_ok kA (t_in P ta) g e := by
    rw [hP]
    exact fr_cl hth hD hG (by decide +kernel) (fun z hz => by cases hz)
  have hro : ∀ r, ro_id r = true → P (kA r) = true := fun r hr => by rw [hP]; exact fr_ro r hr
  have hP0 : P o0 = true := by rw [hP]; exact fr_P_iff.mpr (Or.inl ⟨_, ho0, by decide +kernel⟩)
  have hr0 : GG[8]? = some GG_8 := rfl
  have hf0 : ∀ k c, w_fd ws o0 k = .ref c → P c = true := fun k c hk => cl_fd hD hth hcl ho0 hr0 hP0 hk
  have hav : ∀ b, Value.ref b ∈ [(Value.ref o0), x1] → P b = true ∧ ∀ k c, w_fd ws b k = .ref c → P c = true := fun b hb => by
    rcases List.mem_cons.mp hb with z | hb
    · injection z with z; subst z; exact ⟨hP0, hf0⟩
    rcases List.mem_cons.mp hb with z | hb
    · exact absurd z.symm (no_ref t1 rfl)
    cases hb
  have hgi := gv_in hD (fun b hb => (hav b hb).1) (fun b hb => (hav b hb).2) hgv
  have tg0 : tv_ok (t_in P ta) (2, 0, 0, [164]) g0 := hgi.2.1
  obtain ⟨b0, rb0, rfl, hb0, hc0⟩ := tv_ref tg0 rfl
  obtain rfl := List.mem_singleton.mp hc0
  refine ⟨P, [(Value.ref b0)], [], hro, hcl, ag_in hag (fun b hb => (hav b hb).1), hgi, trivial, ?_, ?_⟩
  · show ∀ f ∈ ([] : List fc_T), fc_1 PRD f (w_in P ws) (([(Value.ref o0), x1] ++ [(Value.ref b0)]) ++ [])
    exact al_nil
  · intro u tb r hle hu htb le1 le2 hkp hDj hpo
    show ∀ f ∈ [(20, [3], [62, 0]), (20, [2], [60, 2, 3, 670, 0, 1, 14, 7, 8]), (20, [2], [60, 2, 2, 596, 0, 1, 7, 8]), (20, [0, 2, 1, 4], [60, 4, 1, 1084, 5, 2, 3, 1000, 0])], fc_1 PRD f (w_out P ws ++ u.2) ((([(Value.ref o0), x1] ++ [(Value.ref b0)]) ++ [Value.ref aH]) ++ r.toList)
    have hDu := vd_right hDj
    have hpo_zq : ∀ f ∈ [(20, [2], [60, 2, 3, 670, 0, 1, 14, 7, 8]), (20, [2], [60, 2, 2, 596, 0, 1, 7, 8]), (20, [0, 2, 1, 3], [60, 4, 1, 1084, 5, 2, 3, 1000, 0])], fc_1 PRD f u.2 (([(Value.ref o0), x1] ++ [(Value.ref b0)]) ++ [] ++ r.toList) := hpo.1
    obtain ⟨po0, hpo_zq⟩ := List.forall_mem_cons.mp hpo_zq
    obtain ⟨po1, hpo_zq⟩ := List.forall_mem_cons.mp hpo_zq
    obtain ⟨po2, hpo_zq⟩ := List.forall_mem_cons.mp hpo_zq
    obtain ⟨i1, i2⟩ := fr_ot hD hth hG hH hgH hc hI.1 (g := 0) (by omega) hP hDj
    refine al_cons (fc_ext ⟨(show ∀ n ∈ [3], n < 4 by decide), ?_⟩) ?_
    · show HI (w_out P ws ++ u.2) (.ref aH)
      exact HX_eq ⟨i1, fun f hf j hj _ => i2 f hf j hj (Or.inr (fun z => by cases z))⟩ hI
    obtain ⟨va, rfl⟩ : ∃ va, r = some va := by
      cases r with
      | none => exact absurd (po2.1 3 (by decide)) (Nat.lt_irrefl 3)
      | some va => exact ⟨va, rfl⟩
    refine al_cons (fc_ext (fc_ext (tk_join (q := ([(2, 0), (2, 1)], [(2, 14), (2, 7), (2, 8)])) hDj rfl rfl ((al_cons (by obtain ⟨e0, he0, _⟩ := th_in hu (hle _ _ hb0) (g := GG_164) rfl; exact ⟨e0, he0⟩) (al_cons (by obtain ⟨e0, he0, _⟩ := th_in hu (hle _ _ hb0) (g := GG_164) rfl; exact ⟨e0, he0⟩) al_nil))) ((al_cons ⟨(by obtain ⟨e0, he0, _⟩ := th_in hu (hle _ _ hb0) (g := GG_164) rfl; exact ⟨e0, he0⟩), (by obtain ⟨d, rd, hd, td, md⟩ := tv_ref (fd_at hDu hu (hle _ _ hb0) (g := GG_164) rfl (k := 14) rfl (by decide)).1 rfl; obtain rfl := List.mem_singleton.mp md; obtain ⟨e0, he0, _⟩ := th_in hu td (g := GG_161) rfl; exact ⟨e0, (show (v_ad (w_fd u.2 b0 14), e0) ∈ u.2 by rw [hd]; exact he0)⟩)⟩ (al_cons ⟨(by obtain ⟨e0, he0, _⟩ := th_in hu (hle _ _ hb0) (g := GG_164) rfl; exact ⟨e0, he0⟩), (by obtain ⟨d, rd, hd, td, md⟩ := tv_ref (fd_at hDu hu (hle _ _ hb0) (g := GG_164) rfl (k := 7) rfl (by decide)).1 rfl; obtain rfl := List.mem_singleton.mp md; obtain ⟨e0, he0, _⟩ := th_in hu td (g := GG_154) rfl; exact ⟨e0, (show (v_ad (w_fd u.2 b0 7), e0) ∈ u.2 by rw [hd]; exact he0)⟩)⟩ (al_cons ⟨(by obtain ⟨e0, he0, _⟩ := th_in hu (hle _ _ hb0) (g := GG_164) rfl; exact ⟨e0, he0⟩), (by obtain ⟨d, rd, hd, td, md⟩ := tv_ref (fd_at hDu hu (hle _ _ hb0) (g := GG_164) rfl (k := 8) rfl (by decide)).1 rfl; obtain rfl := List.mem_singleton.mp md; obtain ⟨e0, he0, _⟩ := th_in hu td (g := GG_155) rfl; exact ⟨e0, (show (v_ad (w_fd u.2 b0 8), e0) ∈ u.2 by rw [hd]; exact he0)⟩)⟩ al_nil)))) (fc_cut (xs := ([(Value.ref o0), x1] ++ [(Value.ref b0)])) (show ∀ n ∈ [2], n < 3 by decide) (by have z := po0; rw [List.append_nil] at z; exact z))))) ?_
    refine al_cons (fc_ext (fc_ext (tk_join (q := ([(2, 0), (2, 1)], [(2, 7), (2, 8)])) hDj rfl rfl ((al_cons (by obtain ⟨e0, he0, _⟩ := th_in hu (hle _ _ hb0) (g := GG_164) rfl; exact ⟨e0, he0⟩) (al_cons (by obtain ⟨e0, he0, _⟩ := th_in hu (hle _ _ hb0) (g := GG_164) rfl; exact ⟨e0, he0⟩) al_nil))) ((al_cons ⟨(by obtain ⟨e0, he0, _⟩ := th_in hu (hle _ _ hb0) (g := GG_164) rfl; exact ⟨e0, he0⟩), (by obtain ⟨d, rd, hd, td, md⟩ := tv_ref (fd_at hDu hu (hle _ _ hb0) (g := GG_164) rfl (k := 7) rfl (by decide)).1 rfl; obtain rfl := List.mem_singleton.mp md; obtain ⟨e0, he0, _⟩ := th_in hu td (g := GG_154) rfl; exact ⟨e0, (show (v_ad (w_fd u.2 b0 7), e0) ∈ u.2 by rw [hd]; exact he0)⟩)⟩ (al_cons ⟨(by obtain ⟨e0, he0, _⟩ := th_in hu (hle _ _ hb0) (g := GG_164) rfl; exact ⟨e0, he0⟩), (by obtain ⟨d, rd, hd, td, md⟩ := tv_ref (fd_at hDu hu (hle _ _ hb0) (g := GG_164) rfl (k := 8) rfl (by decide)).1 rfl; obtain rfl := List.mem_singleton.mp md; obtain ⟨e0, he0, _⟩ := th_in hu td (g := GG_155) rfl; exact ⟨e0, (show (v_ad (w_fd u.2 b0 8), e0) ∈ u.2 by rw [hd]; exact he0)⟩)⟩ al_nil))) (fc_cut (xs := ([(Value.ref o0), x1] ++ [(Value.ref b0)])) (show ∀ n ∈ [2], n < 3 by decide) (by have z := po1; rw [List.append_nil] at z; exact z))))) ?_
    have zj2 := tk_join (f := (20, [0, 2, 1, 3], [60, 4, 1, 1084, 5, 2, 3, 1000, 0])) (vs := ([(Value.ref o0), x1] ++ [(Value.ref b0)]) ++ [] ++ [va]) (q := ([(0, 5), (0, 2), (0, 3), (2, 0)], [(0, 0)])) hDj rfl rfl ((al_cons (by obtain ⟨e0, he0, _⟩ := th_in hu (hle _ _ (t_in_of hP0 ho0)) (g := GG_8) rfl; exact ⟨e0, he0⟩) (al_cons (by obtain ⟨e0, he0, _⟩ := th_in hu (hle _ _ (t_in_of hP0 ho0)) (g := GG_8) rfl; exact ⟨e0, he0⟩) (al_cons (by obtain ⟨e0, he0, _⟩ := th_in hu (hle _ _ (t_in_of hP0 ho0)) (g := GG_8) rfl; exact ⟨e0, he0⟩) (al_cons (by obtain ⟨e0, he0, _⟩ := th_in hu (hle _ _ hb0) (g := GG_164) rfl; exact ⟨e0, he0⟩) al_nil))))) ((al_cons ⟨(by obtain ⟨e0, he0, _⟩ := th_in hu (hle _ _ (t_in_of hP0 ho0)) (g := GG_8) rfl; exact ⟨e0, he0⟩), (by obtain ⟨d, rd, hd, td, md⟩ := tv_ref (fd_at hDu hu (hle _ _ (t_in_of hP0 ho0)) (g := GG_8) rfl (k := 0) rfl (by decide)).1 rfl; obtain rfl := List.mem_singleton.mp md; obtain ⟨e0, he0, _⟩ := th_in hu td (g := GG_109) rfl; exact ⟨e0, (show (v_ad (w_fd u.2 o0 0), e0) ∈ u.2 by rw [hd]; exact he0)⟩)⟩ al_nil)) po2
    refine al_cons ⟨(show ∀ n ∈ [0, 2, 1, 4], n < 5 by decide), zj2.2⟩ ?_
    exact al_nil
