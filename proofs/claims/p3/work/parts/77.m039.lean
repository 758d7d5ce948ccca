section

set_option maxHeartbeats 4000000 in
theorem vc_Mo_stOrder_30_4 (x1 : Int) (x2 : Int) (x3 : Int) (x5 : Int) (x6 : Int) (x8 : Int) (x10 : Int) (x12 : Int) (bestWay_0 : Int → Int) (way_0 : Int → Int) (pt_0 : Int → Int) (ph_0 : Int → Int) (pn_0 : Int) (pm_0 : Int) (alive_0 : Int → Int) (row_0 : Int → Int) (rowMany_0 : Int) (onlyPiece_0 : Int) (drawnNode_0 : Int → Int) (drawnEdge_0 : Int → Int) (pieceOf_0 : Int → Int) (wayMany_0 : Int) (gx : Int) (k1 : 2 ≤ x1 ∧ x1 ≤ 29) (k2 : 0 ≤ x2 ∧ x2 ≤ 24) (k3 : 0 ≤ x3 ∧ x3 ≤ 24) (k5 : 1 ≤ x5 ∧ x5 ≤ 28) (k6 : (-2) ≤ x6 ∧ x6 ≤ 26) (k8 : 0 ≤ x8 ∧ x8 ≤ 24) (k10 : 0 ≤ x10 ∧ x10 ≤ 24) (k12 : 1 ≤ x12 ∧ x12 ≤ 25) (d0 : x3 + 1 ≤ x12 ∧ x12 ≤ x3 + 1) (d1 : x1 + 0 ≤ x5 ∧ x5 ≤ x1 + 4294967296) (d2 : x1 + (-4294967296) ≤ x5 ∧ x5 ≤ x1 + (-1)) (d3 : x1 + (-4294967296) ≤ x5 ∧ x5 ≤ x1 + 0) (f0 : x12 = x3 + 1) (f1 : x1 ≤ x5) (f2 : x8 ≠ x10) (h3 : x10 = bestWay_0 (x5)) (h5 : x8 = way_0 (x5)) (f7 : x5 < x1) (f8 : GOK (pn_0) (pm_0) (pt_0) (ph_0)) (f9 : STB (pn_0) (pm_0) (pt_0) (ph_0) (alive_0)) (f10 : STR (pn_0) (rowMany_0) (pt_0) (ph_0) (row_0)) (f11 : onlyPiece_0 = (-1)) (f12 : (-1) * rowMany_0 + ((-1) * x6 + 0) ≤ (-26)) (f13 : DRR (pn_0) (rowMany_0) (drawnNode_0) (row_0)) (f14 : DEM (pm_0) (pt_0) (ph_0) (drawnNode_0) (drawnEdge_0)) (f15 : UA (pm_0) (alive_0) (drawnEdge_0)) (f16 : (rowMany_0 + 1) ≤ pn_0) (f17 : SB1 (pn_0) (pm_0) (onlyPiece_0) (pt_0) (ph_0) (drawnEdge_0) (pieceOf_0) (drawnNode_0) (bestWay_0) (x1) (x2) (x3)) (f18 : WYM (pn_0) (wayMany_0) (drawnNode_0) (way_0)) (f19 : 1 * x2 + ((-1) * pn_0 + 0) ≤ (-1)) (f20 : 1 * x3 + ((-1) * pn_0 + 0) ≤ (-1)) (f21 : drawnNode_0 (x2) ≠ 0) (f22 : x1 = wayMany_0) (hK_0_33 : ∀ j : Int, 0 ≤ j → j < 80 → 0 ≤ pt_0 j ∧ pt_0 j ≤ 24) (hK_0_34 : ∀ j : Int, 0 ≤ j → j < 80 → 0 ≤ ph_0 j ∧ ph_0 j ≤ 24) (hK_0_35 : ∀ j : Int, 0 ≤ j → j < 80 → 0 ≤ alive_0 j ∧ alive_0 j ≤ 1) (hK_0_42 : ∀ j : Int, 0 ≤ j → j < 26 → 0 ≤ drawnNode_0 j ∧ drawnNode_0 j ≤ 1) (hK_0_43 : ∀ j : Int, 0 ≤ j → j < 80 → 0 ≤ drawnEdge_0 j ∧ drawnEdge_0 j ≤ 1) (hK_0_44 : ∀ j : Int, 0 ≤ j → j < 80 → (-1) ≤ pieceOf_0 j ∧ pieceOf_0 j ≤ 79) (hK_0_46 : ∀ j : Int, 0 ≤ j → j < 30 → 0 ≤ way_0 j ∧ way_0 j ≤ 24) (hK_0_52 : ∀ j : Int, 0 ≤ j → j < 30 → 0 ≤ bestWay_0 j ∧ bestWay_0 j ≤ 24) (hK_0_117 : ∀ j : Int, 0 ≤ j → j < 100 → 0 ≤ row_0 j ∧ row_0 j ≤ 75) (kz_0_31 : 0 ≤ pn_0 ∧ pn_0 ≤ 25) (kz_0_32 : 0 ≤ pm_0 ∧ pm_0 ≤ 80) (kz_0_45 : 0 ≤ wayMany_0 ∧ wayMany_0 ≤ 30) (kz_0_49 : (-1) ≤ onlyPiece_0 ∧ onlyPiece_0 ≤ 79) (kz_0_125 : 0 ≤ rowMany_0 ∧ rowMany_0 ≤ 100) (ex2 : gx = 0 + (1 * x6 + 0)) (ex3 : (-2) ≤ gx ∧ gx ≤ 26) : (-1) * rowMany_0 + ((-1) * gx + 0) ≤ (-26) := by
  first
    | omega
    | (have h := ‹STB _ _ _ _ _›.1.2.2; omega)
    | (have h := ‹STR _ _ _ _ _›.1; omega)
    | (have h := ‹STR _ _ _ _ _›.1
       have w := ‹STR _ _ _ _ _›.2.1 x1 (by omega) (by omega)
       omega)
    | (have h := bc_len ‹BC1 _ _ _ _ _ _ _›
       have h2 := ‹STR _ _ _ _ _›.1
       omega)
    | (have h := (sb_way ‹SB1 _ _ _ _ _ _ _ _ _ _ _ _› (by omega)).1
       have h2 := ‹STR _ _ _ _ _›.1
       omega)
    | (have h := ‹WYM _ _ _ _›.1
       have h2 := ‹STR _ _ _ _ _›.1
       omega)
set_option maxHeartbeats 4000000 in
theorem vc_Mo_stOrder_30_5 (x1 : Int) (x2 : Int) (x3 : Int) (x5 : Int) (x6 : Int) (x8 : Int) (x10 : Int) (x12 : Int) (bestWay_0 : Int → Int) (way_0 : Int → Int) (pt_0 : Int → Int) (ph_0 : Int → Int) (pn_0 : Int) (pm_0 : Int) (alive_0 : Int → Int) (row_0 : Int → Int) (rowMany_0 : Int) (onlyPiece_0 : Int) (drawnNode_0 : Int → Int) (drawnEdge_0 : Int → Int) (pieceOf_0 : Int → Int) (wayMany_0 : Int) (gx : Int) (k1 : 2 ≤ x1 ∧ x1 ≤ 29) (k2 : 0 ≤ x2 ∧ x2 ≤ 24) (k3 : 0 ≤ x3 ∧ x3 ≤ 24) (k5 : 1 ≤ x5 ∧ x5 ≤ 28) (k6 : (-2) ≤ x6 ∧ x6 ≤ 26) (k8 : 0 ≤ x8 ∧ x8 ≤ 24) (k10 : 0 ≤ x10 ∧ x10 ≤ 24) (k12 : 1 ≤ x12 ∧ x12 ≤ 25) (d0 : x3 + 1 ≤ x12 ∧ x12 ≤ x3 + 1) (d1 : x1 + 0 ≤ x5 ∧ x5 ≤ x1 + 4294967296) (d2 : x1 + (-4294967296) ≤ x5 ∧ x5 ≤ x1 + (-1)) (d3 : x1 + (-4294967296) ≤ x5 ∧ x5 ≤ x1 + 0) (f0 : x12 = x3 + 1) (f1 : x1 ≤ x5) (f2 : x8 ≠ x10) (h3 : x10 = bestWay_0 (x5)) (h5 : x8 = way_0 (x5)) (f7 : x5 < x1) (f8 : GOK (pn_0) (pm_0) (pt_0) (ph_0)) (f9 : STB (pn_0) (pm_0) (pt_0) (ph_0) (alive_0)) (f10 : STR (pn_0) (rowMany_0) (pt_0) (ph_0) (row_0)) (f11 : onlyPiece_0 = (-1)) (f12 : (-1) * rowMany_0 + ((-1) * x6 + 0) ≤ (-26)) (f13 : DRR (pn_0) (rowMany_0) (drawnNode_0) (row_0)) (f14 : DEM (pm_0) (pt_0) (ph_0) (drawnNode_0) (drawnEdge_0)) (f15 : UA (pm_0) (alive_0) (drawnEdge_0)) (f16 : (rowMany_0 + 1) ≤ pn_0) (f17 : SB1 (pn_0) (pm_0) (onlyPiece_0) (pt_0) (ph_0) (drawnEdge_0) (pieceOf_0) (drawnNode_0) (bestWay_0) (x1) (x2) (x3)) (f18 : WYM (pn_0) (wayMany_0) (drawnNode_0) (way_0)) (f19 : 1 * x2 + ((-1) * pn_0 + 0) ≤ (-1)) (f20 : 1 * x3 + ((-1) * pn_0 + 0) ≤ (-1)) (f21 : drawnNode_0 (x2) ≠ 0) (f22 : x1 = wayMany_0) (hK_0_33 : ∀ j : Int, 0 ≤ j → j < 80 → 0 ≤ pt_0 j ∧ pt_0 j ≤ 24) (hK_0_34 : ∀ j : Int, 0 ≤ j → j < 80 → 0 ≤ ph_0 j ∧ ph_0 j ≤ 24) (hK_0_35 : ∀ j : Int, 0 ≤ j → j < 80 → 0 ≤ alive_0 j ∧ alive_0 j ≤ 1) (hK_0_42 : ∀ j : Int, 0 ≤ j → j < 26 → 0 ≤ drawnNode_0 j ∧ drawnNode_0 j ≤ 1) (hK_0_43 : ∀ j : Int, 0 ≤ j → j < 80 → 0 ≤ drawnEdge_0 j ∧ drawnEdge_0 j ≤ 1) (hK_0_44 : ∀ j : Int, 0 ≤ j → j < 80 → (-1) ≤ pieceOf_0 j ∧ pieceOf_0 j ≤ 79) (hK_0_46 : ∀ j : Int, 0 ≤ j → j < 30 → 0 ≤ way_0 j ∧ way_0 j ≤ 24) (hK_0_52 : ∀ j : Int, 0 ≤ j → j < 30 → 0 ≤ bestWay_0 j ∧ bestWay_0 j ≤ 24) (hK_0_117 : ∀ j : Int, 0 ≤ j → j < 100 → 0 ≤ row_0 j ∧ row_0 j ≤ 75) (kz_0_31 : 0 ≤ pn_0 ∧ pn_0 ≤ 25) (kz_0_32 : 0 ≤ pm_0 ∧ pm_0 ≤ 80) (kz_0_45 : 0 ≤ wayMany_0 ∧ wayMany_0 ≤ 30) (kz_0_49 : (-1) ≤ onlyPiece_0 ∧ onlyPiece_0 ≤ 79) (kz_0_125 : 0 ≤ rowMany_0 ∧ rowMany_0 ≤ 100) (ex2 : gx = 0 + (1 * x6 + 0)) (ex3 : (-2) ≤ gx ∧ gx ≤ 26) : DRR (pn_0) (rowMany_0) (drawnNode_0) (row_0) := by
  first | assumption
set_option maxHeartbeats 4000000 in
theorem vc_Mo_stOrder_30_6 (x1 : Int) (x2 : Int) (x3 : Int) (x5 : Int) (x6 : Int) (x8 : Int) (x10 : Int) (x12 : Int) (bestWay_0 : Int → Int) (way_0 : Int → Int) (pt_0 : Int → Int) (ph_0 : Int → Int) (pn_0 : Int) (pm_0 : Int) (alive_0 : Int → Int) (row_0 : Int → Int) (rowMany_0 : Int) (onlyPiece_0 : Int) (drawnNode_0 : Int → Int) (drawnEdge_0 : Int → Int) (pieceOf_0 : Int → Int) (wayMany_0 : Int) (gx : Int) (k1 : 2 ≤ x1 ∧ x1 ≤ 29) (k2 : 0 ≤ x2 ∧ x2 ≤ 24) (k3 : 0 ≤ x3 ∧ x3 ≤ 24) (k5 : 1 ≤ x5 ∧ x5 ≤ 28) (k6 : (-2) ≤ x6 ∧ x6 ≤ 26) (k8 : 0 ≤ x8 ∧ x8 ≤ 24) (k10 : 0 ≤ x10 ∧ x10 ≤ 24) (k12 : 1 ≤ x12 ∧ x12 ≤ 25) (d0 : x3 + 1 ≤ x12 ∧ x12 ≤ x3 + 1) (d1 : x1 + 0 ≤ x5 ∧ x5 ≤ x1 + 4294967296) (d2 : x1 + (-4294967296) ≤ x5 ∧ x5 ≤ x1 + (-1)) (d3 : x1 + (-4294967296) ≤ x5 ∧ x5 ≤ x1 + 0) (f0 : x12 = x3 + 1) (f1 : x1 ≤ x5) (f2 : x8 ≠ x10) (h3 : x10 = bestWay_0 (x5)) (h5 : x8 = way_0 (x5)) (f7 : x5 < x1) (f8 : GOK (pn_0) (pm_0) (pt_0) (ph_0)) (f9 : STB (pn_0) (pm_0) (pt_0) (ph_0) (alive_0)) (f10 : STR (pn_0) (rowMany_0) (pt_0) (ph_0) (row_0)) (f11 : onlyPiece_0 = (-1)) (f12 : (-1) * rowMany_0 + ((-1) * x6 + 0) ≤ (-26)) (f13 : DRR (pn_0) (rowMany_0) (drawnNode_0) (row_0)) (f14 : DEM (pm_0) (pt_0) (ph_0) (drawnNode_0) (drawnEdge_0)) (f15 : UA (pm_0) (alive_0) (drawnEdge_0)) (f16 : (rowMany_0 + 1) ≤ pn_0) (f17 : SB1 (pn_0) (pm_0) (onlyPiece_0) (pt_0) (ph_0) (drawnEdge_0) (pieceOf_0) (drawnNode_0) (bestWay_0) (x1) (x2) (x3)) (f18 : WYM (pn_0) (wayMany_0) (drawnNode_0) (way_0)) (f19 : 1 * x2 + ((-1) * pn_0 + 0) ≤ (-1)) (f20 : 1 * x3 + ((-1) * pn_0 + 0) ≤ (-1)) (f21 : drawnNode_0 (x2) ≠ 0) (f22 : x1 = wayMany_0) (hK_0_33 : ∀ j : Int, 0 ≤ j → j < 80 → 0 ≤ pt_0 j ∧ pt_0 j ≤ 24) (hK_0_34 : ∀ j : Int, 0 ≤ j → j < 80 → 0 ≤ ph_0 j ∧ ph_0 j ≤ 24) (hK_0_35 : ∀ j : Int, 0 ≤ j → j < 80 → 0 ≤ alive_0 j ∧ alive_0 j ≤ 1) (hK_0_42 : ∀ j : Int, 0 ≤ j → j < 26 → 0 ≤ drawnNode_0 j ∧ drawnNode_0 j ≤ 1) (hK_0_43 : ∀ j : Int, 0 ≤ j → j < 80 → 0 ≤ drawnEdge_0 j ∧ drawnEdge_0 j ≤ 1) (hK_0_44 : ∀ j : Int, 0 ≤ j → j < 80 → (-1) ≤ pieceOf_0 j ∧ pieceOf_0 j ≤ 79) (hK_0_46 : ∀ j : Int, 0 ≤ j → j < 30 → 0 ≤ way_0 j ∧ way_0 j ≤ 24) (hK_0_52 : ∀ j : Int, 0 ≤ j → j < 30 → 0 ≤ bestWay_0 j ∧ bestWay_0 j ≤ 24) (hK_0_117 : ∀ j : Int, 0 ≤ j → j < 100 → 0 ≤ row_0 j ∧ row_0 j ≤ 75) (kz_0_31 : 0 ≤ pn_0 ∧ pn_0 ≤ 25) (kz_0_32 : 0 ≤ pm_0 ∧ pm_0 ≤ 80) (kz_0_45 : 0 ≤ wayMany_0 ∧ wayMany_0 ≤ 30) (kz_0_49 : (-1) ≤ onlyPiece_0 ∧ onlyPiece_0 ≤ 79) (kz_0_125 : 0 ≤ rowMany_0 ∧ rowMany_0 ≤ 100) (ex2 : gx = 0 + (1 * x6 + 0)) (ex3 : (-2) ≤ gx ∧ gx ≤ 26) : DEM (pm_0) (pt_0) (ph_0) (drawnNode_0) (drawnEdge_0) := by
  first | assumption
set_option maxHeartbeats 4000000 in
theorem vc_Mo_stOrder_30_7 (x1 : Int) (x2 : Int) (x3 : Int) (x5 : Int) (x6 : Int) (x8 : Int) (x10 : Int) (x12 : Int) (bestWay_0 : Int → Int) (way_0 : Int → Int) (pt_0 : Int → Int) (ph_0 : Int → Int) (pn_0 : Int) (pm_0 : Int) (alive_0 : Int → Int) (row_0 : Int → Int) (rowMany_0 : Int) (onlyPiece_0 : Int) (drawnNode_0 : Int → Int) (drawnEdge_0 : Int → Int) (pieceOf_0 : Int → Int) (wayMany_0 : Int) (gx : Int) (k1 : 2 ≤ x1 ∧ x1 ≤ 29) (k2 : 0 ≤ x2 ∧ x2 ≤ 24) (k3 : 0 ≤ x3 ∧ x3 ≤ 24) (k5 : 1 ≤ x5 ∧ x5 ≤ 28) (k6 : (-2) ≤ x6 ∧ x6 ≤ 26) (k8 : 0 ≤ x8 ∧ x8 ≤ 24) (k10 : 0 ≤ x10 ∧ x10 ≤ 24) (k12 : 1 ≤ x12 ∧ x12 ≤ 25) (d0 : x3 + 1 ≤ x12 ∧ x12 ≤ x3 + 1) (d1 : x1 + 0 ≤ x5 ∧ x5 ≤ x1 + 4294967296) (d2 : x1 + (-4294967296) ≤ x5 ∧ x5 ≤ x1 + (-1)) (d3 : x1 + (-4294967296) ≤ x5 ∧ x5 ≤ x1 + 0) (f0 : x12 = x3 + 1) (f1 : x1 ≤ x5) (f2 : x8 ≠ x10) (h3 : x10 = bestWay_0 (x5)) (h5 : x8 = way_0 (x5)) (f7 : x5 < x1) (f8 : GOK (pn_0) (pm_0) (pt_0) (ph_0)) (f9 : STB (pn_0) (pm_0) (pt_0) (ph_0) (alive_0)) (f10 : STR (pn_0) (rowMany_0) (pt_0) (ph_0) (row_0)) (f11 : onlyPiece_0 = (-1)) (f12 : (-1) * rowMany_0 + ((-1) * x6 + 0) ≤ (-26)) (f13 : DRR (pn_0) (rowMany_0) (drawnNode_0) (row_0)) (f14 : DEM (pm_0) (pt_0) (ph_0) (drawnNode_0) (drawnEdge_0)) (f15 : UA (pm_0) (alive_0) (drawnEdge_0)) (f16 : (rowMany_0 + 1) ≤ pn_0) (f17 : SB1 (pn_0) (pm_0) (onlyPiece_0) (pt_0) (ph_0) (drawnEdge_0) (pieceOf_0) (drawnNode_0) (bestWay_0) (x1) (x2) (x3)) (f18 : WYM (pn_0) (wayMany_0) (drawnNode_0) (way_0)) (f19 : 1 * x2 + ((-1) * pn_0 + 0) ≤ (-1)) (f20 : 1 * x3 + ((-1) * pn_0 + 0) ≤ (-1)) (f21 : drawnNode_0 (x2) ≠ 0) (f22 : x1 = wayMany_0) (hK_0_33 : ∀ j : Int, 0 ≤ j → j < 80 → 0 ≤ pt_0 j ∧ pt_0 j ≤ 24) (hK_0_34 : ∀ j : Int, 0 ≤ j → j < 80 → 0 ≤ ph_0 j ∧ ph_0 j ≤ 24) (hK_0_35 : ∀ j : Int, 0 ≤ j → j < 80 → 0 ≤ alive_0 j ∧ alive_0 j ≤ 1) (hK_0_42 : ∀ j : Int, 0 ≤ j → j < 26 → 0 ≤ drawnNode_0 j ∧ drawnNode_0 j ≤ 1) (hK_0_43 : ∀ j : Int, 0 ≤ j → j < 80 → 0 ≤ drawnEdge_0 j ∧ drawnEdge_0 j ≤ 1) (hK_0_44 : ∀ j : Int, 0 ≤ j → j < 80 → (-1) ≤ pieceOf_0 j ∧ pieceOf_0 j ≤ 79) (hK_0_46 : ∀ j : Int, 0 ≤ j → j < 30 → 0 ≤ way_0 j ∧ way_0 j ≤ 24) (hK_0_52 : ∀ j : Int, 0 ≤ j → j < 30 → 0 ≤ bestWay_0 j ∧ bestWay_0 j ≤ 24) (hK_0_117 : ∀ j : Int, 0 ≤ j → j < 100 → 0 ≤ row_0 j ∧ row_0 j ≤ 75) (kz_0_31 : 0 ≤ pn_0 ∧ pn_0 ≤ 25) (kz_0_32 : 0 ≤ pm_0 ∧ pm_0 ≤ 80) (kz_0_45 : 0 ≤ wayMany_0 ∧ wayMany_0 ≤ 30) (kz_0_49 : (-1) ≤ onlyPiece_0 ∧ onlyPiece_0 ≤ 79) (kz_0_125 : 0 ≤ rowMany_0 ∧ rowMany_0 ≤ 100) (ex2 : gx = 0 + (1 * x6 + 0)) (ex3 : (-2) ≤ gx ∧ gx ≤ 26) : UA (pm_0) (alive_0) (drawnEdge_0) := by
  first | assumption
set_option maxHeartbeats 4000000 in
theorem vc_Mo_stOrder_30_8 (x1 : Int) (x2 : Int) (x3 : Int) (x5 : Int) (x6 : Int) (x8 : Int) (x10 : Int) (x12 : Int) (bestWay_0 : Int → Int) (way_0 : Int → Int) (pt_0 : Int → Int) (ph_0 : Int → Int) (pn_0 : Int) (pm_0 : Int) (alive_0 : Int → Int) (row_0 : Int → Int) (rowMany_0 : Int) (onlyPiece_0 : Int) (drawnNode_0 : Int → Int) (drawnEdge_0 : Int → Int) (pieceOf_0 : Int → Int) (wayMany_0 : Int) (gx : Int) (k1 : 2 ≤ x1 ∧ x1 ≤ 29) (k2 : 0 ≤ x2 ∧ x2 ≤ 24) (k3 : 0 ≤ x3 ∧ x3 ≤ 24) (k5 : 1 ≤ x5 ∧ x5 ≤ 28) (k6 : (-2) ≤ x6 ∧ x6 ≤ 26) (k8 : 0 ≤ x8 ∧ x8 ≤ 24) (k10 : 0 ≤ x10 ∧ x10 ≤ 24) (k12 : 1 ≤ x12 ∧ x12 ≤ 25) (d0 : x3 + 1 ≤ x12 ∧ x12 ≤ x3 + 1) (d1 : x1 + 0 ≤ x5 ∧ x5 ≤ x1 + 4294967296) (d2 : x1 + (-4294967296) ≤ x5 ∧ x5 ≤ x1 + (-1)) (d3 : x1 + (-4294967296) ≤ x5 ∧ x5 ≤ x1 + 0) (f0 : x12 = x3 + 1) (f1 : x1 ≤ x5) (f2 : x8 ≠ x10) (h3 : x10 = bestWay_0 (x5)) (h5 : x8 = way_0 (x5)) (f7 : x5 < x1) (f8 : GOK (pn_0) (pm_0) (pt_0) (ph_0)) (f9 : STB (pn_0) (pm_0) (pt_0) (ph_0) (alive_0)) (f10 : STR (pn_0) (rowMany_0) (pt_0) (ph_0) (row_0)) (f11 : onlyPiece_0 = (-1)) (f12 : (-1) * rowMany_0 + ((-1) * x6 + 0) ≤ (-26)) (f13 : DRR (pn_0) (rowMany_0) (drawnNode_0) (row_0)) (f14 : DEM (pm_0) (pt_0) (ph_0) (drawnNode_0) (drawnEdge_0)) (f15 : UA (pm_0) (alive_0) (drawnEdge_0)) (f16 : (rowMany_0 + 1) ≤ pn_0) (f17 : SB1 (pn_0) (pm_0) (onlyPiece_0) (pt_0) (ph_0) (drawnEdge_0) (pieceOf_0) (drawnNode_0) (bestWay_0) (x1) (x2) (x3)) (f18 : WYM (pn_0) (wayMany_0) (drawnNode_0) (way_0)) (f19 : 1 * x2 + ((-1) * pn_0 + 0) ≤ (-1)) (f20 : 1 * x3 + ((-1) * pn_0 + 0) ≤ (-1)) (f21 : drawnNode_0 (x2) ≠ 0) (f22 : x1 = wayMany_0) (hK_0_33 : ∀ j : Int, 0 ≤ j → j < 80 → 0 ≤ pt_0 j ∧ pt_0 j ≤ 24) (hK_0_34 : ∀ j : Int, 0 ≤ j → j < 80 → 0 ≤ ph_0 j ∧ ph_0 j ≤ 24) (hK_0_35 : ∀ j : Int, 0 ≤ j → j < 80 → 0 ≤ alive_0 j ∧ alive_0 j ≤ 1) (hK_0_42 : ∀ j : Int, 0 ≤ j → j < 26 → 0 ≤ drawnNode_0 j ∧ drawnNode_0 j ≤ 1) (hK_0_43 : ∀ j : Int, 0 ≤ j → j < 80 → 0 ≤ drawnEdge_0 j ∧ drawnEdge_0 j ≤ 1) (hK_0_44 : ∀ j : Int, 0 ≤ j → j < 80 → (-1) ≤ pieceOf_0 j ∧ pieceOf_0 j ≤ 79) (hK_0_46 : ∀ j : Int, 0 ≤ j → j < 30 → 0 ≤ way_0 j ∧ way_0 j ≤ 24) (hK_0_52 : ∀ j : Int, 0 ≤ j → j < 30 → 0 ≤ bestWay_0 j ∧ bestWay_0 j ≤ 24) (hK_0_117 : ∀ j : Int, 0 ≤ j → j < 100 → 0 ≤ row_0 j ∧ row_0 j ≤ 75) (kz_0_31 : 0 ≤ pn_0 ∧ pn_0 ≤ 25) (kz_0_32 : 0 ≤ pm_0 ∧ pm_0 ≤ 80) (kz_0_45 : 0 ≤ wayMany_0 ∧ wayMany_0 ≤ 30) (kz_0_49 : (-1) ≤ onlyPiece_0 ∧ onlyPiece_0 ≤ 79) (kz_0_125 : 0 ≤ rowMany_0 ∧ rowMany_0 ≤ 100) (ex2 : gx = 0 + (1 * x6 + 0)) (ex3 : (-2) ≤ gx ∧ gx ≤ 26) : (rowMany_0 + 1) ≤ pn_0 := by
  first
    | omega
    | (have h := ‹STB _ _ _ _ _›.1.2.2; omega)
    | (have h := ‹STR _ _ _ _ _›.1; omega)
    | (have h := ‹STR _ _ _ _ _›.1
       have w := ‹STR _ _ _ _ _›.2.1 x1 (by omega) (by omega)
       omega)
    | (have h := bc_len ‹BC1 _ _ _ _ _ _ _›
       have h2 := ‹STR _ _ _ _ _›.1
       omega)
    | (have h := (sb_way ‹SB1 _ _ _ _ _ _ _ _ _ _ _ _› (by omega)).1
       have h2 := ‹STR _ _ _ _ _›.1
       omega)
    | (have h := ‹WYM _ _ _ _›.1
       have h2 := ‹STR _ _ _ _ _›.1
       omega)
set_option maxHeartbeats 4000000 in
theorem vc_Mo_stOrder_30_9 (x1 : Int) (x2 : Int) (x3 : Int) (x5 : Int) (x6 : Int) (x8 : Int) (x10 : Int) (x12 : Int) (bestWay_0 : Int → Int) (way_0 : Int → Int) (pt_0 : Int → Int) (ph_0 : Int → Int) (pn_0 : Int) (pm_0 : Int) (alive_0 : Int → Int) (row_0 : Int → Int) (rowMany_0 : Int) (onlyPiece_0 : Int) (drawnNode_0 : Int → Int) (drawnEdge_0 : Int → Int) (pieceOf_0 : Int → Int) (wayMany_0 : Int) (gx : Int) (k1 : 2 ≤ x1 ∧ x1 ≤ 29) (k2 : 0 ≤ x2 ∧ x2 ≤ 24) (k3 : 0 ≤ x3 ∧ x3 ≤ 24) (k5 : 1 ≤ x5 ∧ x5 ≤ 28) (k6 : (-2) ≤ x6 ∧ x6 ≤ 26) (k8 : 0 ≤ x8 ∧ x8 ≤ 24) (k10 : 0 ≤ x10 ∧ x10 ≤ 24) (k12 : 1 ≤ x12 ∧ x12 ≤ 25) (d0 : x3 + 1 ≤ x12 ∧ x12 ≤ x3 + 1) (d1 : x1 + 0 ≤ x5 ∧ x5 ≤ x1 + 4294967296) (d2 : x1 + (-4294967296) ≤ x5 ∧ x5 ≤ x1 + (-1)) (d3 : x1 + (-4294967296) ≤ x5 ∧ x5 ≤ x1 + 0) (f0 : x12 = x3 + 1) (f1 : x1 ≤ x5) (f2 : x8 ≠ x10) (h3 : x10 = bestWay_0 (x5)) (h5 : x8 = way_0 (x5)) (f7 : x5 < x1) (f8 : GOK (pn_0) (pm_0) (pt_0) (ph_0)) (f9 : STB (pn_0) (pm_0) (pt_0) (ph_0) (alive_0)) (f10 : STR (pn_0) (rowMany_0) (pt_0) (ph_0) (row_0)) (f11 : onlyPiece_0 = (-1)) (f12 : (-1) * rowMany_0 + ((-1) * x6 + 0) ≤ (-26)) (f13 : DRR (pn_0) (rowMany_0) (drawnNode_0) (row_0)) (f14 : DEM (pm_0) (pt_0) (ph_0) (drawnNode_0) (drawnEdge_0)) (f15 : UA (pm_0) (alive_0) (drawnEdge_0)) (f16 : (rowMany_0 + 1) ≤ pn_0) (f17 : SB1 (pn_0) (pm_0) (onlyPiece_0) (pt_0) (ph_0) (drawnEdge_0) (pieceOf_0) (drawnNode_0) (bestWay_0) (x1) (x2) (x3)) (f18 : WYM (pn_0) (wayMany_0) (drawnNode_0) (way_0)) (f19 : 1 * x2 + ((-1) * pn_0 + 0) ≤ (-1)) (f20 : 1 * x3 + ((-1) * pn_0 + 0) ≤ (-1)) (f21 : drawnNode_0 (x2) ≠ 0) (f22 : x1 = wayMany_0) (hK_0_33 : ∀ j : Int, 0 ≤ j → j < 80 → 0 ≤ pt_0 j ∧ pt_0 j ≤ 24) (hK_0_34 : ∀ j : Int, 0 ≤ j → j < 80 → 0 ≤ ph_0 j ∧ ph_0 j ≤ 24) (hK_0_35 : ∀ j : Int, 0 ≤ j → j < 80 → 0 ≤ alive_0 j ∧ alive_0 j ≤ 1) (hK_0_42 : ∀ j : Int, 0 ≤ j → j < 26 → 0 ≤ drawnNode_0 j ∧ drawnNode_0 j ≤ 1) (hK_0_43 : ∀ j : Int, 0 ≤ j → j < 80 → 0 ≤ drawnEdge_0 j ∧ drawnEdge_0 j ≤ 1) (hK_0_44 : ∀ j : Int, 0 ≤ j → j < 80 → (-1) ≤ pieceOf_0 j ∧ pieceOf_0 j ≤ 79) (hK_0_46 : ∀ j : Int, 0 ≤ j → j < 30 → 0 ≤ way_0 j ∧ way_0 j ≤ 24) (hK_0_52 : ∀ j : Int, 0 ≤ j → j < 30 → 0 ≤ bestWay_0 j ∧ bestWay_0 j ≤ 24) (hK_0_117 : ∀ j : Int, 0 ≤ j → j < 100 → 0 ≤ row_0 j ∧ row_0 j ≤ 75) (kz_0_31 : 0 ≤ pn_0 ∧ pn_0 ≤ 25) (kz_0_32 : 0 ≤ pm_0 ∧ pm_0 ≤ 80) (kz_0_45 : 0 ≤ wayMany_0 ∧ wayMany_0 ≤ 30) (kz_0_49 : (-1) ≤ onlyPiece_0 ∧ onlyPiece_0 ≤ 79) (kz_0_125 : 0 ≤ rowMany_0 ∧ rowMany_0 ≤ 100) (ex2 : gx = 0 + (1 * x6 + 0)) (ex3 : (-2) ≤ gx ∧ gx ≤ 26) : SB1 (pn_0) (pm_0) (onlyPiece_0) (pt_0) (ph_0) (drawnEdge_0) (pieceOf_0) (drawnNode_0) (bestWay_0) (x1) (x2) (x12) := by
  first
    | exact sb_0 ‹SA1 _ _ _ _ _ _ _ _ _ _ _› (by omega)
    | exact sb_skip ‹SB1 _ _ _ _ _ _ _ _ _ _ _ _› (by omega) (Or.inl (by omega))
    | exact sb_skip ‹SB1 _ _ _ _ _ _ _ _ _ _ _ _› (by omega) (Or.inr (by omega))
    | exact sb_now ‹SB1 _ _ _ _ _ _ _ _ _ _ _ _› (by omega) ‹SHP _ _ _ _ _ _ _ _ _ _ _ _ _ _› (by omega) (by omega)
    | exact sb_any ‹SB1 _ _ _ _ _ _ _ _ _ _ _ _› (by omega)
    | exact Or.inr (bc_way ‹BC1 _ _ _ _ _ _ _› (by omega))
set_option maxHeartbeats 4000000 in
theorem vc_Mo_stOrder_30_10 (x1 : Int) (x2 : Int) (x3 : Int) (x5 : Int) (x6 : Int) (x8 : Int) (x10 : Int) (x12 : Int) (bestWay_0 : Int → Int) (way_0 : Int → Int) (pt_0 : Int → Int) (ph_0 : Int → Int) (pn_0 : Int) (pm_0 : Int) (alive_0 : Int → Int) (row_0 : Int → Int) (rowMany_0 : Int) (onlyPiece_0 : Int) (drawnNode_0 : Int → Int) (drawnEdge_0 : Int → Int) (pieceOf_0 : Int → Int) (wayMany_0 : Int) (gx : Int) (k1 : 2 ≤ x1 ∧ x1 ≤ 29) (k2 : 0 ≤ x2 ∧ x2 ≤ 24) (k3 : 0 ≤ x3 ∧ x3 ≤ 24) (k5 : 1 ≤ x5 ∧ x5 ≤ 28) (k6 : (-2) ≤ x6 ∧ x6 ≤ 26) (k8 : 0 ≤ x8 ∧ x8 ≤ 24) (k10 : 0 ≤ x10 ∧ x10 ≤ 24) (k12 : 1 ≤ x12 ∧ x12 ≤ 25) (d0 : x3 + 1 ≤ x12 ∧ x12 ≤ x3 + 1) (d1 : x1 + 0 ≤ x5 ∧ x5 ≤ x1 + 4294967296) (d2 : x1 + (-4294967296) ≤ x5 ∧ x5 ≤ x1 + (-1)) (d3 : x1 + (-4294967296) ≤ x5 ∧ x5 ≤ x1 + 0) (f0 : x12 = x3 + 1) (f1 : x1 ≤ x5) (f2 : x8 ≠ x10) (h3 : x10 = bestWay_0 (x5)) (h5 : x8 = way_0 (x5)) (f7 : x5 < x1) (f8 : GOK (pn_0) (pm_0) (pt_0) (ph_0)) (f9 : STB (pn_0) (pm_0) (pt_0) (ph_0) (alive_0)) (f10 : STR (pn_0) (rowMany_0) (pt_0) (ph_0) (row_0)) (f11 : onlyPiece_0 = (-1)) (f12 : (-1) * rowMany_0 + ((-1) * x6 + 0) ≤ (-26)) (f13 : DRR (pn_0) (rowMany_0) (drawnNode_0) (row_0)) (f14 : DEM (pm_0) (pt_0) (ph_0) (drawnNode_0) (drawnEdge_0)) (f15 : UA (pm_0) (alive_0) (drawnEdge_0)) (f16 : (rowMany_0 + 1) ≤ pn_0) (f17 : SB1 (pn_0) (pm_0) (onlyPiece_0) (pt_0) (ph_0) (drawnEdge_0) (pieceOf_0) (drawnNode_0) (bestWay_0) (x1) (x2) (x3)) (f18 : WYM (pn_0) (wayMany_0) (drawnNode_0) (way_0)) (f19 : 1 * x2 + ((-1) * pn_0 + 0) ≤ (-1)) (f20 : 1 * x3 + ((-1) * pn_0 + 0) ≤ (-1)) (f21 : drawnNode_0 (x2) ≠ 0) (f22 : x1 = wayMany_0) (hK_0_33 : ∀ j : Int, 0 ≤ j → j < 80 → 0 ≤ pt_0 j ∧ pt_0 j ≤ 24) (hK_0_34 : ∀ j : Int, 0 ≤ j → j < 80 → 0 ≤ ph_0 j ∧ ph_0 j ≤ 24) (hK_0_35 : ∀ j : Int, 0 ≤ j → j < 80 → 0 ≤ alive_0 j ∧ alive_0 j ≤ 1) (hK_0_42 : ∀ j : Int, 0 ≤ j → j < 26 → 0 ≤ drawnNode_0 j ∧ drawnNode_0 j ≤ 1) (hK_0_43 : ∀ j : Int, 0 ≤ j → j < 80 → 0 ≤ drawnEdge_0 j ∧ drawnEdge_0 j ≤ 1) (hK_0_44 : ∀ j : Int, 0 ≤ j → j < 80 → (-1) ≤ pieceOf_0 j ∧ pieceOf_0 j ≤ 79) (hK_0_46 : ∀ j : Int, 0 ≤ j → j < 30 → 0 ≤ way_0 j ∧ way_0 j ≤ 24) (hK_0_52 : ∀ j : Int, 0 ≤ j → j < 30 → 0 ≤ bestWay_0 j ∧ bestWay_0 j ≤ 24) (hK_0_117 : ∀ j : Int, 0 ≤ j → j < 100 → 0 ≤ row_0 j ∧ row_0 j ≤ 75) (kz_0_31 : 0 ≤ pn_0 ∧ pn_0 ≤ 25) (kz_0_32 : 0 ≤ pm_0 ∧ pm_0 ≤ 80) (kz_0_45 : 0 ≤ wayMany_0 ∧ wayMany_0 ≤ 30) (kz_0_49 : (-1) ≤ onlyPiece_0 ∧ onlyPiece_0 ≤ 79) (kz_0_125 : 0 ≤ rowMany_0 ∧ rowMany_0 ≤ 100) (ex2 : gx = 0 + (1 * x6 + 0)) (ex3 : (-2) ≤ gx ∧ gx ≤ 26) : 1 * x2 + ((-1) * pn_0 + 0) ≤ (-1) := by
  first
    | omega
    | (have h := ‹STB _ _ _ _ _›.1.2.2; omega)
    | (have h := ‹STR _ _ _ _ _›.1; omega)
    | (have h := ‹STR _ _ _ _ _›.1
       have w := ‹STR _ _ _ _ _›.2.1 x1 (by omega) (by omega)
       omega)
    | (have h := bc_len ‹BC1 _ _ _ _ _ _ _›
       have h2 := ‹STR _ _ _ _ _›.1
       omega)
    | (have h := (sb_way ‹SB1 _ _ _ _ _ _ _ _ _ _ _ _› (by omega)).1
       have h2 := ‹STR _ _ _ _ _›.1
       omega)
    | (have h := ‹WYM _ _ _ _›.1
       have h2 := ‹STR _ _ _ _ _›.1
       omega)
set_option maxHeartbeats 4000000 in
theorem vc_Mo_stOrder_30_11 (x1 : Int) (x2 : Int) (x3 : Int) (x5 : Int) (x6 : Int) (x8 : Int) (x10 : Int) (x12 : Int) (bestWay_0 : Int → Int) (way_0 : Int → Int) (pt_0 : Int → Int) (ph_0 : Int → Int) (pn_0 : Int) (pm_0 : Int) (alive_0 : Int → Int) (row_0 : Int → Int) (rowMany_0 : Int) (onlyPiece_0 : Int) (drawnNode_0 : Int → Int) (drawnEdge_0 : Int → Int) (pieceOf_0 : Int → Int) (wayMany_0 : Int) (gx : Int) (k1 : 2 ≤ x1 ∧ x1 ≤ 29) (k2 : 0 ≤ x2 ∧ x2 ≤ 24) (k3 : 0 ≤ x3 ∧ x3 ≤ 24) (k5 : 1 ≤ x5 ∧ x5 ≤ 28) (k6 : (-2) ≤ x6 ∧ x6 ≤ 26) (k8 : 0 ≤ x8 ∧ x8 ≤ 24) (k10 : 0 ≤ x10 ∧ x10 ≤ 24) (k12 : 1 ≤ x12 ∧ x12 ≤ 25) (d0 : x3 + 1 ≤ x12 ∧ x12 ≤ x3 + 1) (d1 : x1 + 0 ≤ x5 ∧ x5 ≤ x1 + 4294967296) (d2 : x1 + (-4294967296) ≤ x5 ∧ x5 ≤ x1 + (-1)) (d3 : x1 + (-4294967296) ≤ x5 ∧ x5 ≤ x1 + 0) (f0 : x12 = x3 + 1) (f1 : x1 ≤ x5) (f2 : x8 ≠ x10) (h3 : x10 = bestWay_0 (x5)) (h5 : x8 = way_0 (x5)) (f7 : x5 < x1) (f8 : GOK (pn_0) (pm_0) (pt_0) (ph_0)) (f9 : STB (pn_0) (pm_0) (pt_0) (ph_0) (alive_0)) (f10 : STR (pn_0) (rowMany_0) (pt_0) (ph_0) (row_0)) (f11 : onlyPiece_0 = (-1)) (f12 : (-1) * rowMany_0 + ((-1) * x6 + 0) ≤ (-26)) (f13 : DRR (pn_0) (rowMany_0) (drawnNode_0) (row_0)) (f14 : DEM (pm_0) (pt_0) (ph_0) (drawnNode_0) (drawnEdge_0)) (f15 : UA (pm_0) (alive_0) (drawnEdge_0)) (f16 : (rowMany_0 + 1) ≤ pn_0) (f17 : SB1 (pn_0) (pm_0) (onlyPiece_0) (pt_0) (ph_0) (drawnEdge_0) (pieceOf_0) (drawnNode_0) (bestWay_0) (x1) (x2) (x3)) (f18 : WYM (pn_0) (wayMany_0) (drawnNode_0) (way_0)) (f19 : 1 * x2 + ((-1) * pn_0 + 0) ≤ (-1)) (f20 : 1 * x3 + ((-1) * pn_0 + 0) ≤ (-1)) (f21 : drawnNode_0 (x2) ≠ 0) (f22 : x1 = wayMany_0) (hK_0_33 : ∀ j : Int, 0 ≤ j → j < 80 → 0 ≤ pt_0 j ∧ pt_0 j ≤ 24) (hK_0_34 : ∀ j : Int, 0 ≤ j → j < 80 → 0 ≤ ph_0 j ∧ ph_0 j ≤ 24) (hK_0_35 : ∀ j : Int, 0 ≤ j → j < 80 → 0 ≤ alive_0 j ∧ alive_0 j ≤ 1) (hK_0_42 : ∀ j : Int, 0 ≤ j → j < 26 → 0 ≤ drawnNode_0 j ∧ drawnNode_0 j ≤ 1) (hK_0_43 : ∀ j : Int, 0 ≤ j → j < 80 → 0 ≤ drawnEdge_0 j ∧ drawnEdge_0 j ≤ 1) (hK_0_44 : ∀ j : Int, 0 ≤ j → j < 80 → (-1) ≤ pieceOf_0 j ∧ pieceOf_0 j ≤ 79) (hK_0_46 : ∀ j : Int, 0 ≤ j → j < 30 → 0 ≤ way_0 j ∧ way_0 j ≤ 24) (hK_0_52 : ∀ j : Int, 0 ≤ j → j < 30 → 0 ≤ bestWay_0 j ∧ bestWay_0 j ≤ 24) (hK_0_117 : ∀ j : Int, 0 ≤ j → j < 100 → 0 ≤ row_0 j ∧ row_0 j ≤ 75) (kz_0_31 : 0 ≤ pn_0 ∧ pn_0 ≤ 25) (kz_0_32 : 0 ≤ pm_0 ∧ pm_0 ≤ 80) (kz_0_45 : 0 ≤ wayMany_0 ∧ wayMany_0 ≤ 30) (kz_0_49 : (-1) ≤ onlyPiece_0 ∧ onlyPiece_0 ≤ 79) (kz_0_125 : 0 ≤ rowMany_0 ∧ rowMany_0 ≤ 100) (ex2 : gx = 0 + (1 * x6 + 0)) (ex3 : (-2) ≤ gx ∧ gx ≤ 26) : drawnNode_0 (x2) ≠ 0 := by
  first
    | omega
    | (have h := ‹STB _ _ _ _ _›.1.2.2; omega)
    | (have h := ‹STR _ _ _ _ _›.1; omega)
    | (have h := ‹STR _ _ _ _ _›.1
       have w := ‹STR _ _ _ _ _›.2.1 x1 (by omega) (by omega)
       omega)
    | (have h := bc_len ‹BC1 _ _ _ _ _ _ _›
       have h2 := ‹STR _ _ _ _ _›.1
       omega)
    | (have h := (sb_way ‹SB1 _ _ _ _ _ _ _ _ _ _ _ _› (by omega)).1
       have h2 := ‹STR _ _ _ _ _›.1
       omega)
    | (have h := ‹WYM _ _ _ _›.1
       have h2 := ‹STR _ _ _ _ _›.1
       omega)
def o_Mo_stOrder_30 : or_T := (181, 13, [(0, (2, 0, 0, [165])), (1, (0, 2, 29, [])), (2, (0, 0, 24, [])), (3, (0, 0, 24, [])), (5, (0, 1, 28, [])), (6, (0, -2, 26, [])), (7, (2, 0, 0, [191])), (8, (0, 0, 24, [])), (9, (2, 0, 0, [195])), (10, (0, 0, 24, [])), (12, (0, 1, 25, []))], [(6, [12, 3], [1]), (7, [5, 1], [3]), (7, [8, 10], [1]), (10, [10, 9, 5], []), (9, [9, 0], [52]), (10, [8, 7, 5], []), (9, [7, 0], [46]), (7, [5, 1], [2]), (20, [0], [60, 2, 2, 75, 31, 32, 33, 34]), (20, [0], [60, 2, 3, 297, 31, 32, 33, 34, 35]), (20, [0], [60, 2, 3, 298, 31, 125, 33, 34, 117]), (20, [0], [50, 1, 0, 49, 1, 3, 2, 0, 49, 0, -1]), (20, [0, 6], [30, -26, -1, 1, 125, -1, 0, 0]), (20, [0], [60, 2, 2, 301, 31, 125, 42, 117]), (20, [0], [60, 1, 4, 303, 32, 33, 34, 42, 43]), (20, [0], [60, 1, 2, 122, 32, 35, 43]), (20, [0], [50, 2, 0, 125, 31, 0, 7, 4, 3, 2, 0, 125, 0, 1, 2, 0, 31]), (20, [0, 1, 2, 3], [60, 3, 6, 306, 31, 32, 49, 33, 34, 43, 44, 42, 52]), (20, [0], [60, 2, 2, 304, 31, 45, 42, 46]), (20, [2, 0], [30, -1, 1, 0, 0, -1, 1, 31]), (20, [3, 0], [30, -1, 1, 0, 0, -1, 1, 31]), (20, [0, 2], [50, 0, 1, 42, 7, 5, 3, 0, 42, 1, 1, 0, 0]), (20, [1, 0], [50, 1, 0, 1045, 1, 2, 1, 0, 2, 1, 45])], [], [(0, -2, 26, [])], [(20, [0], [60, 2, 2, 75, 31, 32, 33, 34]), (20, [0], [60, 2, 3, 297, 31, 32, 33, 34, 35]), (20, [0], [60, 2, 3, 298, 31, 125, 33, 34, 117]), (20, [0], [50, 1, 0, 49, 1, 3, 2, 0, 49, 0, -1]), (20, [0, 13], [30, -26, -1, 1, 125, -1, 0, 0]), (20, [0], [60, 2, 2, 301, 31, 125, 42, 117]), (20, [0], [60, 1, 4, 303, 32, 33, 34, 42, 43]), (20, [0], [60, 1, 2, 122, 32, 35, 43]), (20, [0], [50, 2, 0, 125, 31, 0, 7, 4, 3, 2, 0, 125, 0, 1, 2, 0, 31]), (20, [0, 1, 2, 12], [60, 3, 6, 306, 31, 32, 49, 33, 34, 43, 44, 42, 52]), (20, [2, 0], [30, -1, 1, 0, 0, -1, 1, 31]), (20, [0, 2], [50, 0, 1, 42, 7, 5, 3, 0, 42, 1, 1, 0, 0])], [(13, 6, 0, 0)], [(12, 3, 1, 1), (5, 1, 0, 4294967296), (5, 1, -4294967296, -1), (5, 1, -4294967296, 0)])
theorem oo_Mo_stOrder_30 {kA : Nat → ClassId} : or_ok PRD kA GG o_Mo_stOrder_30 := by
  refine or_mk fun A ta ws vs hD hth hl => ?_
  intro t0 r0 t1 k1 t2 k2 t3 k3 t5 k5 t6 k6 t7 r7 t8 k8 t9 r9 t10 k10 t12 k12 d0 d1 d2 d3 f0 f1 f2 f3 f4 f5 f6 f7 f8 f9 f10 f11 f12 f13 f14 f15 f16 f17 f18 f19 f20 f21 f22
  replace f0 := shm_4 f0
  replace f1 := shm_2 f1
  replace f2 := shm_40 f2
  replace f3 := shm_107 f3
  replace f4 := shm_993 f4
  replace f5 := shm_107 f5
  replace f6 := shm_737 f6
  replace f7 := shm_6 f7
  replace f8 := shm_575 f8
  replace f9 := shm_1749 f9
  replace f10 := shm_1001 f10
  replace f11 := shm_1675 f11
  replace f12 := shm_1750 f12
  replace f13 := shm_1755 f13
  replace f14 := shm_1757 f14
  replace f15 := shm_1455 f15
  replace f16 := shm_1752 f16
  replace f17 := shm_1761 f17
  replace f18 := shm_1764 f18
  replace f19 := shm_553 f19
  replace f20 := shm_553 f20
  replace f21 := shm_1762 f21
  replace f22 := shm_1765 f22
  have cr_0_33 := fdq_117 hD hth r0
  have cr_0_34 := fdq_118 hD hth r0
  have cr_0_35 := fdq_132 hD hth r0
  have cr_0_42 := fdq_136 hD hth r0
  have cr_0_43 := fdq_137 hD hth r0
  have cr_0_44 := fdq_138 hD hth r0
  have cr_0_46 := fdq_190 hD hth r0
  have cr_0_52 := fdq_236 hD hth r0
  have cr_0_117 := fdq_181 hD hth r0
  have ad_9 : v_ad (n_v vs 9) = w_ar ws (n_v vs 0) 52 := congrArg v_ad f4
  have ad_7 : v_ad (n_v vs 7) = w_ar ws (n_v vs 0) 46 := congrArg v_ad f6
  simp only [ad_9] at f3
  have h3 : v_iv (n_v vs 10) = w_ei ws (w_ar ws (n_v vs 0) 52) (v_iv (n_v vs 5)) := f3
  simp only [ad_7] at f5
  have h5 : v_iv (n_v vs 8) = w_ei ws (w_ar ws (n_v vs 0) 46) (v_iv (n_v vs 5)) := f5
  have hK_0_33 := elq_60 hD hth cr_0_33
  have hK_0_34 := elq_61 hD hth cr_0_34
  have hK_0_35 := elq_72 hD hth cr_0_35
  have hK_0_42 := elq_75 hD hth cr_0_42
  have hK_0_43 := elq_76 hD hth cr_0_43
  have hK_0_44 := elq_77 hD hth cr_0_44
  have hK_0_46 := elq_114 hD hth cr_0_46
  have hK_0_52 := elq_147 hD hth cr_0_52
  have hK_0_117 := elq_108 hD hth cr_0_117
  have kz_0_31 := fdq_145 hD hth r0
  have kz_0_32 := fdq_140 hD hth r0
  have kz_0_45 := fdq_191 hD hth r0
  have kz_0_49 := fdq_146 hD hth r0
  have kz_0_125 := fdq_182 hD hth r0
  obtain ⟨x, ex, hx⟩ := iv_ex (ta := ta) (lo := (-2)) (hi := 26) (z := 0 + (1 * v_iv (n_v vs 6) + 0)) (by omega) (by omega) (by omega) (by omega)
  have ex2 : v_iv (Value.int x) = 0 + (1 * v_iv (n_v vs 6) + 0) := ex
  have ex3 : (-2) ≤ v_iv (Value.int x) ∧ v_iv (Value.int x) ≤ 26 := tv_rng hx
  have e_0 : n_v (vs ++ [Value.int x]) 0 = n_v vs 0 := n_v_old (by rw [hl]; decide)
  have e_1 : n_v (vs ++ [Value.int x]) 1 = n_v vs 1 := n_v_old (by rw [hl]; decide)
  have e_2 : n_v (vs ++ [Value.int x]) 2 = n_v vs 2 := n_v_old (by rw [hl]; decide)
  have e_12 : n_v (vs ++ [Value.int x]) 12 = n_v vs 12 := n_v_old (by rw [hl]; decide)
  have e_13 : n_v (vs ++ [Value.int x]) 13 = Value.int x := n_v_new hl
  have nf0 : fc_1 PRD (20, [0], [60, 2, 2, 75, 31, 32, 33, 34]) ws (vs ++ [Value.int x]) := by
    refine ⟨nf_inA hl rfl, sgq_575 ?_⟩
    · show GOK (w_fi ws (n_v (vs ++ [Value.int x]) 0) 31) (w_fi ws (n_v (vs ++ [Value.int x]) 0) 32) (w_ei ws (w_ar ws (n_v (vs ++ [Value.int x]) 0) 33)) (w_ei ws (w_ar ws (n_v (vs ++ [Value.int x]) 0) 34))
      rw [e_0]
      exact vc_Mo_stOrder_30_0 (v_iv (n_v vs 1)) (v_iv (n_v vs 2)) (v_iv (n_v vs 3)) (v_iv (n_v vs 5)) (v_iv (n_v vs 6)) (v_iv (n_v vs 8)) (v_iv (n_v vs 10)) (v_iv (n_v vs 12)) (w_ei ws (w_ar ws (n_v vs 0) 52)) (w_ei ws (w_ar ws (n_v vs 0) 46)) (w_ei ws (w_ar ws (n_v vs 0) 33)) (w_ei ws (w_ar ws (n_v vs 0) 34)) (w_fi ws (n_v vs 0) 31) (w_fi ws (n_v vs 0) 32) (w_ei ws (w_ar ws (n_v vs 0) 35)) (w_ei ws (w_ar ws (n_v vs 0) 117)) (w_fi ws (n_v vs 0) 125) (w_fi ws (n_v vs 0) 49) (w_ei ws (w_ar ws (n_v vs 0) 42)) (w_ei ws (w_ar ws (n_v vs 0) 43)) (w_ei ws (w_ar ws (n_v vs 0) 44)) (w_fi ws (n_v vs 0) 45) (v_iv (Value.int x)) k1 k2 k3 k5 k6 k8 k10 k12 d0 d1 d2 d3 f0 f1 f2 h3 h5 f7 f8 f9 f10 f11 f12 f13 f14 f15 f16 f17 f18 f19 f20 f21 f22 hK_0_33 hK_0_34 hK_0_35 hK_0_42 hK_0_43 hK_0_44 hK_0_46 hK_0_52 hK_0_117 kz_0_31 kz_0_32 kz_0_45 kz_0_49 kz_0_125 ex2 ex3
  have nf1 : fc_1 PRD (20, [0], [60, 2, 3, 297, 31, 32, 33, 34, 35]) ws (vs ++ [Value.int x]) := by
    refine ⟨nf_inA hl rfl, sgq_1749 ?_⟩
    · show STB (w_fi ws (n_v (vs ++ [Value.int x]) 0) 31) (w_fi ws (n_v (vs ++ [Value.int x]) 0) 32) (w_ei ws (w_ar ws (n_v (vs ++ [Value.int x]) 0) 33)) (w_ei ws (w_ar ws (n_v (vs ++ [Value.int x]) 0) 34)) (w_ei ws (w_ar ws (n_v (vs ++ [Value.int x]) 0) 35))
      rw [e_0]
      exact vc_Mo_stOrder_30_1 (v_iv (n_v vs 1)) (v_iv (n_v vs 2)) (v_iv (n_v vs 3)) (v_iv (n_v vs 5)) (v_iv (n_v vs 6)) (v_iv (n_v vs 8)) (v_iv (n_v vs 10)) (v_iv (n_v vs 12)) (w_ei ws (w_ar ws (n_v vs 0) 52)) (w_ei ws (w_ar ws (n_v vs 0) 46)) (w_ei ws (w_ar ws (n_v vs 0) 33)) (w_ei ws (w_ar ws (n_v vs 0) 34)) (w_fi ws (n_v vs 0) 31) (w_fi ws (n_v vs 0) 32) (w_ei ws (w_ar ws (n_v vs 0) 35)) (w_ei ws (w_ar ws (n_v vs 0) 117)) (w_fi ws (n_v vs 0) 125) (w_fi ws (n_v vs 0) 49) (w_ei ws (w_ar ws (n_v vs 0) 42)) (w_ei ws (w_ar ws (n_v vs 0) 43)) (w_ei ws (w_ar ws (n_v vs 0) 44)) (w_fi ws (n_v vs 0) 45) (v_iv (Value.int x)) k1 k2 k3 k5 k6 k8 k10 k12 d0 d1 d2 d3 f0 f1 f2 h3 h5 f7 f8 f9 f10 f11 f12 f13 f14 f15 f16 f17 f18 f19 f20 f21 f22 hK_0_33 hK_0_34 hK_0_35 hK_0_42 hK_0_43 hK_0_44 hK_0_46 hK_0_52 hK_0_117 kz_0_31 kz_0_32 kz_0_45 kz_0_49 kz_0_125 ex2 ex3
  have nf2 : fc_1 PRD (20, [0], [60, 2, 3, 298, 31, 125, 33, 34, 117]) ws (vs ++ [Value.int x]) := by
    refine ⟨nf_inA hl rfl, sgq_1001 ?_⟩
    · show STR (w_fi ws (n_v (vs ++ [Value.int x]) 0) 31) (w_fi ws (n_v (vs ++ [Value.int x]) 0) 125) (w_ei ws (w_ar ws (n_v (vs ++ [Value.int x]) 0) 33)) (w_ei ws (w_ar ws (n_v (vs ++ [Value.int x]) 0) 34)) (w_ei ws (w_ar ws (n_v (vs ++ [Value.int x]) 0) 117))
      rw [e_0]
      exact vc_Mo_stOrder_30_2 (v_iv (n_v vs 1)) (v_iv (n_v vs 2)) (v_iv (n_v vs 3)) (v_iv (n_v vs 5)) (v_iv (n_v vs 6)) (v_iv (n_v vs 8)) (v_iv (n_v vs 10)) (v_iv (n_v vs 12)) (w_ei ws (w_ar ws (n_v vs 0) 52)) (w_ei ws (w_ar ws (n_v vs 0) 46)) (w_ei ws (w_ar ws (n_v vs 0) 33)) (w_ei ws (w_ar ws (n_v vs 0) 34)) (w_fi ws (n_v vs 0) 31) (w_fi ws (n_v vs 0) 32) (w_ei ws (w_ar ws (n_v vs 0) 35)) (w_ei ws (w_ar ws (n_v vs 0) 117)) (w_fi ws (n_v vs 0) 125) (w_fi ws (n_v vs 0) 49) (w_ei ws (w_ar ws (n_v vs 0) 42)) (w_ei ws (w_ar ws (n_v vs 0) 43)) (w_ei ws (w_ar ws (n_v vs 0) 44)) (w_fi ws (n_v vs 0) 45) (v_iv (Value.int x)) k1 k2 k3 k5 k6 k8 k10 k12 d0 d1 d2 d3 f0 f1 f2 h3 h5 f7 f8 f9 f10 f11 f12 f13 f14 f15 f16 f17 f18 f19 f20 f21 f22 hK_0_33 hK_0_34 hK_0_35 hK_0_42 hK_0_43 hK_0_44 hK_0_46 hK_0_52 hK_0_117 kz_0_31 kz_0_32 kz_0_45 kz_0_49 kz_0_125 ex2 ex3
  have nf3 : fc_1 PRD (20, [0], [50, 1, 0, 49, 1, 3, 2, 0, 49, 0, -1]) ws (vs ++ [Value.int x]) := by
    refine ⟨nf_inA hl rfl, sgq_1675 ?_⟩
    · show w_fi ws (n_v (vs ++ [Value.int x]) 0) 49 = (-1)
      rw [e_0]
      exact vc_Mo_stOrder_30_3 (v_iv (n_v vs 1)) (v_iv (n_v vs 2)) (v_iv (n_v vs 3)) (v_iv (n_v vs 5)) (v_iv (n_v vs 6)) (v_iv (n_v vs 8)) (v_iv (n_v vs 10)) (v_iv (n_v vs 12)) (w_ei ws (w_ar ws (n_v vs 0) 52)) (w_ei ws (w_ar ws (n_v vs 0) 46)) (w_ei ws (w_ar ws (n_v vs 0) 33)) (w_ei ws (w_ar ws (n_v vs 0) 34)) (w_fi ws (n_v vs 0) 31) (w_fi ws (n_v vs 0) 32) (w_ei ws (w_ar ws (n_v vs 0) 35)) (w_ei ws (w_ar ws (n_v vs 0) 117)) (w_fi ws (n_v vs 0) 125) (w_fi ws (n_v vs 0) 49) (w_ei ws (w_ar ws (n_v vs 0) 42)) (w_ei ws (w_ar ws (n_v vs 0) 43)) (w_ei ws (w_ar ws (n_v vs 0) 44)) (w_fi ws (n_v vs 0) 45) (v_iv (Value.int x)) k1 k2 k3 k5 k6 k8 k10 k12 d0 d1 d2 d3 f0 f1 f2 h3 h5 f7 f8 f9 f10 f11 f12 f13 f14 f15 f16 f17 f18 f19 f20 f21 f22 hK_0_33 hK_0_34 hK_0_35 hK_0_42 hK_0_43 hK_0_44 hK_0_46 hK_0_52 hK_0_117 kz_0_31 kz_0_32 kz_0_45 kz_0_49 kz_0_125 ex2 ex3
  have nf4 : fc_1 PRD (20, [0, 13], [30, -26, -1, 1, 125, -1, 0, 0]) ws (vs ++ [Value.int x]) := by
    refine ⟨nf_inA hl rfl, sgq_1750 ?_⟩
    · show (-1) * w_fi ws (n_v (vs ++ [Value.int x]) 0) 125 + ((-1) * v_iv (n_v (vs ++ [Value.int x]) 13) + 0) ≤ (-26)
      simp only [e_0, e_13]
      exact vc_Mo_stOrder_30_4 (v_iv (n_v vs 1)) (v_iv (n_v vs 2)) (v_iv (n_v vs 3)) (v_iv (n_v vs 5)) (v_iv (n_v vs 6)) (v_iv (n_v vs 8)) (v_iv (n_v vs 10)) (v_iv (n_v vs 12)) (w_ei ws (w_ar ws (n_v vs 0) 52)) (w_ei ws (w_ar ws (n_v vs 0) 46)) (w_ei ws (w_ar ws (n_v vs 0) 33)) (w_ei ws (w_ar ws (n_v vs 0) 34)) (w_fi ws (n_v vs 0) 31) (w_fi ws (n_v vs 0) 32) (w_ei ws (w_ar ws (n_v vs 0) 35)) (w_ei ws (w_ar ws (n_v vs 0) 117)) (w_fi ws (n_v vs 0) 125) (w_fi ws (n_v vs 0) 49) (w_ei ws (w_ar ws (n_v vs 0) 42)) (w_ei ws (w_ar ws (n_v vs 0) 43)) (w_ei ws (w_ar ws (n_v vs 0) 44)) (w_fi ws (n_v vs 0) 45) (v_iv (Value.int x)) k1 k2 k3 k5 k6 k8 k10 k12 d0 d1 d2 d3 f0 f1 f2 h3 h5 f7 f8 f9 f10 f11 f12 f13 f14 f15 f16 f17 f18 f19 f20 f21 f22 hK_0_33 hK_0_34 hK_0_35 hK_0_42 hK_0_43 hK_0_44 hK_0_46 hK_0_52 hK_0_117 kz_0_31 kz_0_32 kz_0_45 kz_0_49 kz_0_125 ex2 ex3
  have nf5 : fc_1 PRD (20, [0], [60, 2, 2, 301, 31, 125, 42, 117]) ws (vs ++ [Value.int x]) := by
    refine ⟨nf_inA hl rfl, sgq_1755 ?_⟩
    · show DRR (w_fi ws (n_v (vs ++ [Value.int x]) 0) 31) (w_fi ws (n_v (vs ++ [Value.int x]) 0) 125) (w_ei ws (w_ar ws (n_v (vs ++ [Value.int x]) 0) 42)) (w_ei ws (w_ar ws (n_v (vs ++ [Value.int x]) 0) 117))
      rw [e_0]
      exact vc_Mo_stOrder_30_5 (v_iv (n_v vs 1)) (v_iv (n_v vs 2)) (v_iv (n_v vs 3)) (v_iv (n_v vs 5)) (v_iv (n_v vs 6)) (v_iv (n_v vs 8)) (v_iv (n_v vs 10)) (v_iv (n_v vs 12)) (w_ei ws (w_ar ws (n_v vs 0) 52)) (w_ei ws (w_ar ws (n_v vs 0) 46)) (w_ei ws (w_ar ws (n_v vs 0) 33)) (w_ei ws (w_ar ws (n_v vs 0) 34)) (w_fi ws (n_v vs 0) 31) (w_fi ws (n_v vs 0) 32) (w_ei ws (w_ar ws (n_v vs 0) 35)) (w_ei ws (w_ar ws (n_v vs 0) 117)) (w_fi ws (n_v vs 0) 125) (w_fi ws (n_v vs 0) 49) (w_ei ws (w_ar ws (n_v vs 0) 42)) (w_ei ws (w_ar ws (n_v vs 0) 43)) (w_ei ws (w_ar ws (n_v vs 0) 44)) (w_fi ws (n_v vs 0) 45) (v_iv (Value.int x)) k1 k2 k3 k5 k6 k8 k10 k12 d0 d1 d2 d3 f0 f1 f2 h3 h5 f7 f8 f9 f10 f11 f12 f13 f14 f15 f16 f17 f18 f19 f20 f21 f22 hK_0_33 hK_0_34 hK_0_35 hK_0_42 hK_0_43 hK_0_44 hK_0_46 hK_0_52 hK_0_117 kz_0_31 kz_0_32 kz_0_45 kz_0_49 kz_0_125 ex2 ex3
  have nf6 : fc_1 PRD (20, [0], [60, 1, 4, 303, 32, 33, 34, 42, 43]) ws (vs ++ [Value.int x]) := by
    refine ⟨nf_inA hl rfl, sgq_1757 ?_⟩
    · show DEM (w_fi ws (n_v (vs ++ [Value.int x]) 0) 32) (w_ei ws (w_ar ws (n_v (vs ++ [Value.int x]) 0) 33)) (w_ei ws (w_ar ws (n_v (vs ++ [Value.int x]) 0) 34)) (w_ei ws (w_ar ws (n_v (vs ++ [Value.int x]) 0) 42)) (w_ei ws (w_ar ws (n_v (vs ++ [Value.int x]) 0) 43))
      rw [e_0]
      exact vc_Mo_stOrder_30_6 (v_iv (n_v vs 1)) (v_iv (n_v vs 2)) (v_iv (n_v vs 3)) (v_iv (n_v vs 5)) (v_iv (n_v vs 6)) (v_iv (n_v vs 8)) (v_iv (n_v vs 10)) (v_iv (n_v vs 12)) (w_ei ws (w_ar ws (n_v vs 0) 52)) (w_ei ws (w_ar ws (n_v vs 0) 46)) (w_ei ws (w_ar ws (n_v vs 0) 33)) (w_ei ws (w_ar ws (n_v vs 0) 34)) (w_fi ws (n_v vs 0) 31) (w_fi ws (n_v vs 0) 32) (w_ei ws (w_ar ws (n_v vs 0) 35)) (w_ei ws (w_ar ws (n_v vs 0) 117)) (w_fi ws (n_v vs 0) 125) (w_fi ws (n_v vs 0) 49) (w_ei ws (w_ar ws (n_v vs 0) 42)) (w_ei ws (w_ar ws (n_v vs 0) 43)) (w_ei ws (w_ar ws (n_v vs 0) 44)) (w_fi ws (n_v vs 0) 45) (v_iv (Value.int x)) k1 k2 k3 k5 k6 k8 k10 k12 d0 d1 d2 d3 f0 f1 f2 h3 h5 f7 f8 f9 f10 f11 f12 f13 f14 f15 f16 f17 f18 f19 f20 f21 f22 hK_0_33 hK_0_34 hK_0_35 hK_0_42 hK_0_43 hK_0_44 hK_0_46 hK_0_52 hK_0_117 kz_0_31 kz_0_32 kz_0_45 kz_0_49 kz_0_125 ex2 ex3
  have nf7 : fc_1 PRD (20, [0], [60, 1, 2, 122, 32, 35, 43]) ws (vs ++ [Value.int x]) := by
    refine ⟨nf_inA hl rfl, sgq_1455 ?_⟩
    · show UA (w_fi ws (n_v (vs ++ [Value.int x]) 0) 32) (w_ei ws (w_ar ws (n_v (vs ++ [Value.int x]) 0) 35)) (w_ei ws (w_ar ws (n_v (vs ++ [Value.int x]) 0) 43))
      rw [e_0]
      exact vc_Mo_stOrder_30_7 (v_iv (n_v vs 1)) (v_iv (n_v vs 2)) (v_iv (n_v vs 3)) (v_iv (n_v vs 5)) (v_iv (n_v vs 6)) (v_iv (n_v vs 8)) (v_iv (n_v vs 10)) (v_iv (n_v vs 12)) (w_ei ws (w_ar ws (n_v vs 0) 52)) (w_ei ws (w_ar ws (n_v vs 0) 46)) (w_ei ws (w_ar ws (n_v vs 0) 33)) (w_ei ws (w_ar ws (n_v vs 0) 34)) (w_fi ws (n_v vs 0) 31) (w_fi ws (n_v vs 0) 32) (w_ei ws (w_ar ws (n_v vs 0) 35)) (w_ei ws (w_ar ws (n_v vs 0) 117)) (w_fi ws (n_v vs 0) 125) (w_fi ws (n_v vs 0) 49) (w_ei ws (w_ar ws (n_v vs 0) 42)) (w_ei ws (w_ar ws (n_v vs 0) 43)) (w_ei ws (w_ar ws (n_v vs 0) 44)) (w_fi ws (n_v vs 0) 45) (v_iv (Value.int x)) k1 k2 k3 k5 k6 k8 k10 k12 d0 d1 d2 d3 f0 f1 f2 h3 h5 f7 f8 f9 f10 f11 f12 f13 f14 f15 f16 f17 f18 f19 f20 f21 f22 hK_0_33 hK_0_34 hK_0_35 hK_0_42 hK_0_43 hK_0_44 hK_0_46 hK_0_52 hK_0_117 kz_0_31 kz_0_32 kz_0_45 kz_0_49 kz_0_125 ex2 ex3
  have nf8 : fc_1 PRD (20, [0], [50, 2, 0, 125, 31, 0, 7, 4, 3, 2, 0, 125, 0, 1, 2, 0, 31]) ws (vs ++ [Value.int x]) := by
    refine ⟨nf_inA hl rfl, sgq_1752 ?_⟩
    · show (w_fi ws (n_v (vs ++ [Value.int x]) 0) 125 + 1) ≤ w_fi ws (n_v (vs ++ [Value.int x]) 0) 31
      rw [e_0]
      exact vc_Mo_stOrder_30_8 (v_iv (n_v vs 1)) (v_iv (n_v vs 2)) (v_iv (n_v vs 3)) (v_iv (n_v vs 5)) (v_iv (n_v vs 6)) (v_iv (n_v vs 8)) (v_iv (n_v vs 10)) (v_iv (n_v vs 12)) (w_ei ws (w_ar ws (n_v vs 0) 52)) (w_ei ws (w_ar ws (n_v vs 0) 46)) (w_ei ws (w_ar ws (n_v vs 0) 33)) (w_ei ws (w_ar ws (n_v vs 0) 34)) (w_fi ws (n_v vs 0) 31) (w_fi ws (n_v vs 0) 32) (w_ei ws (w_ar ws (n_v vs 0) 35)) (w_ei ws (w_ar ws (n_v vs 0) 117)) (w_fi ws (n_v vs 0) 125) (w_fi ws (n_v vs 0) 49) (w_ei ws (w_ar ws (n_v vs 0) 42)) (w_ei ws (w_ar ws (n_v vs 0) 43)) (w_ei ws (w_ar ws (n_v vs 0) 44)) (w_fi ws (n_v vs 0) 45) (v_iv (Value.int x)) k1 k2 k3 k5 k6 k8 k10 k12 d0 d1 d2 d3 f0 f1 f2 h3 h5 f7 f8 f9 f10 f11 f12 f13 f14 f15 f16 f17 f18 f19 f20 f21 f22 hK_0_33 hK_0_34 hK_0_35 hK_0_42 hK_0_43 hK_0_44 hK_0_46 hK_0_52 hK_0_117 kz_0_31 kz_0_32 kz_0_45 kz_0_49 kz_0_125 ex2 ex3
  have nf9 : fc_1 PRD (20, [0, 1, 2, 12], [60, 3, 6, 306, 31, 32, 49, 33, 34, 43, 44, 42, 52]) ws (vs ++ [Value.int x]) := by
    refine ⟨nf_inA hl rfl, sgq_1761 ?_⟩
    · show SB1 (w_fi ws (n_v (vs ++ [Value.int x]) 0) 31) (w_fi ws (n_v (vs ++ [Value.int x]) 0) 32) (w_fi ws (n_v (vs ++ [Value.int x]) 0) 49) (w_ei ws (w_ar ws (n_v (vs ++ [Value.int x]) 0) 33)) (w_ei ws (w_ar ws (n_v (vs ++ [Value.int x]) 0) 34)) (w_ei ws (w_ar ws (n_v (vs ++ [Value.int x]) 0) 43)) (w_ei ws (w_ar ws (n_v (vs ++ [Value.int x]) 0) 44)) (w_ei ws (w_ar ws (n_v (vs ++ [Value.int x]) 0) 42)) (w_ei ws (w_ar ws (n_v (vs ++ [Value.int x]) 0) 52)) (v_iv (n_v (vs ++ [Value.int x]) 1)) (v_iv (n_v (vs ++ [Value.int x]) 2)) (v_iv (n_v (vs ++ [Value.int x]) 12))
      simp only [e_0, e_1, e_2, e_12]
      exact vc_Mo_stOrder_30_9 (v_iv (n_v vs 1)) (v_iv (n_v vs 2)) (v_iv (n_v vs 3)) (v_iv (n_v vs 5)) (v_iv (n_v vs 6)) (v_iv (n_v vs 8)) (v_iv (n_v vs 10)) (v_iv (n_v vs 12)) (w_ei ws (w_ar ws (n_v vs 0) 52)) (w_ei ws (w_ar ws (n_v vs 0) 46)) (w_ei ws (w_ar ws (n_v vs 0) 33)) (w_ei ws (w_ar ws (n_v vs 0) 34)) (w_fi ws (n_v vs 0) 31) (w_fi ws (n_v vs 0) 32) (w_ei ws (w_ar ws (n_v vs 0) 35)) (w_ei ws (w_ar ws (n_v vs 0) 117)) (w_fi ws (n_v vs 0) 125) (w_fi ws (n_v vs 0) 49) (w_ei ws (w_ar ws (n_v vs 0) 42)) (w_ei ws (w_ar ws (n_v vs 0) 43)) (w_ei ws (w_ar ws (n_v vs 0) 44)) (w_fi ws (n_v vs 0) 45) (v_iv (Value.int x)) k1 k2 k3 k5 k6 k8 k10 k12 d0 d1 d2 d3 f0 f1 f2 h3 h5 f7 f8 f9 f10 f11 f12 f13 f14 f15 f16 f17 f18 f19 f20 f21 f22 hK_0_33 hK_0_34 hK_0_35 hK_0_42 hK_0_43 hK_0_44 hK_0_46 hK_0_52 hK_0_117 kz_0_31 kz_0_32 kz_0_45 kz_0_49 kz_0_125 ex2 ex3
  have nf10 : fc_1 PRD (20, [2, 0], [30, -1, 1, 0, 0, -1, 1, 31]) ws (vs ++ [Value.int x]) := by
    refine ⟨nf_inA hl rfl, sgq_553 ?_⟩
    · show 1 * v_iv (n_v (vs ++ [Value.int x]) 2) + ((-1) * w_fi ws (n_v (vs ++ [Value.int x]) 0) 31 + 0) ≤ (-1)
      simp only [e_0, e_2]
      exact vc_Mo_stOrder_30_10 (v_iv (n_v vs 1)) (v_iv (n_v vs 2)) (v_iv (n_v vs 3)) (v_iv (n_v vs 5)) (v_iv (n_v vs 6)) (v_iv (n_v vs 8)) (v_iv (n_v vs 10)) (v_iv (n_v vs 12)) (w_ei ws (w_ar ws (n_v vs 0) 52)) (w_ei ws (w_ar ws (n_v vs 0) 46)) (w_ei ws (w_ar ws (n_v vs 0) 33)) (w_ei ws (w_ar ws (n_v vs 0) 34)) (w_fi ws (n_v vs 0) 31) (w_fi ws (n_v vs 0) 32) (w_ei ws (w_ar ws (n_v vs 0) 35)) (w_ei ws (w_ar ws (n_v vs 0) 117)) (w_fi ws (n_v vs 0) 125) (w_fi ws (n_v vs 0) 49) (w_ei ws (w_ar ws (n_v vs 0) 42)) (w_ei ws (w_ar ws (n_v vs 0) 43)) (w_ei ws (w_ar ws (n_v vs 0) 44)) (w_fi ws (n_v vs 0) 45) (v_iv (Value.int x)) k1 k2 k3 k5 k6 k8 k10 k12 d0 d1 d2 d3 f0 f1 f2 h3 h5 f7 f8 f9 f10 f11 f12 f13 f14 f15 f16 f17 f18 f19 f20 f21 f22 hK_0_33 hK_0_34 hK_0_35 hK_0_42 hK_0_43 hK_0_44 hK_0_46 hK_0_52 hK_0_117 kz_0_31 kz_0_32 kz_0_45 kz_0_49 kz_0_125 ex2 ex3
  have nf11 : fc_1 PRD (20, [0, 2], [50, 0, 1, 42, 7, 5, 3, 0, 42, 1, 1, 0, 0]) ws (vs ++ [Value.int x]) := by
    refine ⟨nf_inA hl rfl, sgq_1762 ?_⟩
    · show w_ei ws (w_ar ws (n_v (vs ++ [Value.int x]) 0) 42) (v_iv (n_v (vs ++ [Value.int x]) 2)) ≠ 0
      simp only [e_0, e_2]
      exact vc_Mo_stOrder_30_11 (v_iv (n_v vs 1)) (v_iv (n_v vs 2)) (v_iv (n_v vs 3)) (v_iv (n_v vs 5)) (v_iv (n_v vs 6)) (v_iv (n_v vs 8)) (v_iv (n_v vs 10)) (v_iv (n_v vs 12)) (w_ei ws (w_ar ws (n_v vs 0) 52)) (w_ei ws (w_ar ws (n_v vs 0) 46)) (w_ei ws (w_ar ws (n_v vs 0) 33)) (w_ei ws (w_ar ws (n_v vs 0) 34)) (w_fi ws (n_v vs 0) 31) (w_fi ws (n_v vs 0) 32) (w_ei ws (w_ar ws (n_v vs 0) 35)) (w_ei ws (w_ar ws (n_v vs 0) 117)) (w_fi ws (n_v vs 0) 125) (w_fi ws (n_v vs 0) 49) (w_ei ws (w_ar ws (n_v vs 0) 42)) (w_ei ws (w_ar ws (n_v vs 0) 43)) (w_ei ws (w_ar ws (n_v vs 0) 44)) (w_fi ws (n_v vs 0) 45) (v_iv (Value.int x)) k1 k2 k3 k5 k6 k8 k10 k12 d0 d1 d2 d3 f0 f1 f2 h3 h5 f7 f8 f9 f10 f11 f12 f13 f14 f15 f16 f17 f18 f19 f20 f21 f22 hK_0_33 hK_0_34 hK_0_35 hK_0_42 hK_0_43 hK_0_44 hK_0_46 hK_0_52 hK_0_117 kz_0_31 kz_0_32 kz_0_45 kz_0_49 kz_0_125 ex2 ex3
  obtain ⟨x0, e0, _, _⟩ := tv_int t6 rfl
  have e1 : v_iv (n_v vs 6) = x0.toInt := by rw [e0]; rfl
  have ho : sy_ofs (vs ++ [Value.int x]) (13, 6, 0, 0) := by
    refine ⟨x, x0, by rw [List.getElem?_append_right (by rw [hl]; decide), hl]; rfl, ?_, ?_, ?_⟩
    · rw [List.getElem?_append_left (by rw [hl]; decide)]; exact n_v_some (by rw [hl]; decide) e0
    · show x0.toInt + 0 ≤ x.toInt; omega
    · show x.toInt ≤ x0.toInt + 0; omega
  exact ⟨(fun _ h => (by cases h)), [Value.int x], ag_one hx, List.forall_mem_cons.mpr ⟨⟨show (20 : Nat) < 100 from by decide, nf0⟩, List.forall_mem_cons.mpr ⟨⟨show (20 : Nat) < 100 from by decide, nf1⟩, List.forall_mem_cons.mpr ⟨⟨show (20 : Nat) < 100 from by decide, nf2⟩, List.forall_mem_cons.mpr ⟨⟨show (20 : Nat) < 100 from by decide, nf3⟩, List.forall_mem_cons.mpr ⟨⟨show (20 : Nat) < 100 from by decide, nf4⟩, List.forall_mem_cons.mpr ⟨⟨show (20 : Nat) < 100 from by decide, nf5⟩, List.forall_mem_cons.mpr ⟨⟨show (20 : Nat) < 100 from by decide, nf6⟩, List.forall_mem_cons.mpr ⟨⟨show (20 : Nat) < 100 from by decide, nf7⟩, List.forall_mem_cons.mpr ⟨⟨show (20 : Nat) < 100 from by decide, nf8⟩, List.forall_mem_cons.mpr ⟨⟨show (20 : Nat) < 100 from by decide, nf9⟩, List.forall_mem_cons.mpr ⟨⟨show (20 : Nat) < 100 from by decide, nf10⟩, List.forall_mem_cons.mpr ⟨⟨show (20 : Nat) < 100 from by decide, nf11⟩, (fun _ h => (by cases h))⟩⟩⟩⟩⟩⟩⟩⟩⟩⟩⟩⟩, List.forall_mem_cons.mpr ⟨ho, (fun _ h => (by cases h))⟩⟩
set_option maxHeartbeats 4000000 in
theorem vc_Mo_stOrder_31_0 (x1 : Int) (x2 : Int) (x3 : Int) (x5 : Int) (x6 : Int) (x8 : Int) (x10 : Int) (x11 : Int) (x12 : Int) (x14 : Int) (bestWay_0 : Int → Int) (way_0 : Int → Int) (pt_0 : Int → Int) (ph_0 : Int → Int) (pn_0 : Int) (pm_0 : Int) (alive_0 : Int → Int) (row_0 : Int → Int) (rowMany_0 : Int) (onlyPiece_0 : Int) (drawnNode_0 : Int → Int) (drawnEdge_0 : Int → Int) (pieceOf_0 : Int → Int) (wayMany_0 : Int) (gx : Int) (k1 : 1 ≤ x1 ∧ x1 ≤ 30) (k2 : 0 ≤ x2 ∧ x2 ≤ 24) (k3 : 0 ≤ x3 ∧ x3 ≤ 24) (k5 : 0 ≤ x5 ∧ x5 ≤ 29) (k6 : (-2) ≤ x6 ∧ x6 ≤ 26) (k8 : 0 ≤ x8 ∧ x8 ≤ 24) (k10 : 0 ≤ x10 ∧ x10 ≤ 24) (k11 : 0 ≤ x11 ∧ x11 ≤ 24) (k12 : 0 ≤ x12 ∧ x12 ≤ 24) (k14 : 1 ≤ x14 ∧ x14 ≤ 25) (d0 : x3 + 1 ≤ x14 ∧ x14 ≤ x3 + 1) (d1 : x12 + 0 ≤ x11 ∧ x11 ≤ x12 + 4294967296) (d2 : x1 + (-4294967296) ≤ x5 ∧ x5 ≤ x1 + (-1)) (d3 : x1 + (-4294967296) ≤ x5 ∧ x5 ≤ x1 + 0) (f0 : x14 = x3 + 1) (f1 : x12 ≤ x11) (h2 : x12 = bestWay_0 (x5)) (h4 : x11 = way_0 (x5)) (f6 : x5 < x1) (f7 : x8 ≠ x10) (h8 : x10 = bestWay_0 (x5)) (h9 : x8 = way_0 (x5)) (f10 : x5 < x1) (f11 : GOK (pn_0) (pm_0) (pt_0) (ph_0)) (f12 : STB (pn_0) (pm_0) (pt_0) (ph_0) (alive_0)) (f13 : STR (pn_0) (rowMany_0) (pt_0) (ph_0) (row_0)) (f14 : onlyPiece_0 = (-1)) (f15 : (-1) * rowMany_0 + ((-1) * x6 + 0) ≤ (-26)) (f16 : DRR (pn_0) (rowMany_0) (drawnNode_0) (row_0)) (f17 : DEM (pm_0) (pt_0) (ph_0) (drawnNode_0) (drawnEdge_0)) (f18 : UA (pm_0) (alive_0) (drawnEdge_0)) (f19 : (rowMany_0 + 1) ≤ pn_0) (f20 : SB1 (pn_0) (pm_0) (onlyPiece_0) (pt_0) (ph_0) (drawnEdge_0) (pieceOf_0) (drawnNode_0) (bestWay_0) (x1) (x2) (x3)) (f21 : WYM (pn_0) (wayMany_0) (drawnNode_0) (way_0)) (f22 : 1 * x2 + ((-1) * pn_0 + 0) ≤ (-1)) (f23 : 1 * x3 + ((-1) * pn_0 + 0) ≤ (-1)) (f24 : drawnNode_0 (x2) ≠ 0) (f25 : x1 = wayMany_0) (hK_0_33 : ∀ j : Int, 0 ≤ j → j < 80 → 0 ≤ pt_0 j ∧ pt_0 j ≤ 24) (hK_0_34 : ∀ j : Int, 0 ≤ j → j < 80 → 0 ≤ ph_0 j ∧ ph_0 j ≤ 24) (hK_0_35 : ∀ j : Int, 0 ≤ j → j < 80 → 0 ≤ alive_0 j ∧ alive_0 j ≤ 1) (hK_0_42 : ∀ j : Int, 0 ≤ j → j < 26 → 0 ≤ drawnNode_0 j ∧ drawnNode_0 j ≤ 1) (hK_0_43 : ∀ j : Int, 0 ≤ j → j < 80 → 0 ≤ drawnEdge_0 j ∧ drawnEdge_0 j ≤ 1) (hK_0_44 : ∀ j : Int, 0 ≤ j → j < 80 → (-1) ≤ pieceOf_0 j ∧ pieceOf_0 j ≤ 79) (hK_0_46 : ∀ j : Int, 0 ≤ j → j < 30 → 0 ≤ way_0 j ∧ way_0 j ≤ 24) (hK_0_52 : ∀ j : Int, 0 ≤ j → j < 30 → 0 ≤ bestWay_0 j ∧ bestWay_0 j ≤ 24) (hK_0_117 : ∀ j : Int, 0 ≤ j → j < 100 → 0 ≤ row_0 j ∧ row_0 j ≤ 75) (kz_0_31 : 0 ≤ pn_0 ∧ pn_0 ≤ 25) (kz_0_32 : 0 ≤ pm_0 ∧ pm_0 ≤ 80) (kz_0_45 : 0 ≤ wayMany_0 ∧ wayMany_0 ≤ 30) (kz_0_49 : (-1) ≤ onlyPiece_0 ∧ onlyPiece_0 ≤ 79) (kz_0_125 : 0 ≤ rowMany_0 ∧ rowMany_0 ≤ 100) (ex2 : gx = 0 + (1 * x6 + 0)) (ex3 : (-2) ≤ gx ∧ gx ≤ 26) : GOK (pn_0) (pm_0) (pt_0) (ph_0) := by
  first
    | assumption
    | exact ‹STB _ _ _ _ _›.1.1
set_option maxHeartbeats 4000000 in
theorem vc_Mo_stOrder_31_1 (x1 : Int) (x2 : Int) (x3 : Int) (x5 : Int) (x6 : Int) (x8 : Int) (x10 : Int) (x11 : Int) (x12 : Int) (x14 : Int) (bestWay_0 : Int → Int) (way_0 : Int → Int) (pt_0 : Int → Int) (ph_0 : Int → Int) (pn_0 : Int) (pm_0 : Int) (alive_0 : Int → Int) (row_0 : Int → Int) (rowMany_0 : Int) (onlyPiece_0 : Int) (drawnNode_0 : Int → Int) (drawnEdge_0 : Int → Int) (pieceOf_0 : Int → Int) (wayMany_0 : Int) (gx : Int) (k1 : 1 ≤ x1 ∧ x1 ≤ 30) (k2 : 0 ≤ x2 ∧ x2 ≤ 24) (k3 : 0 ≤ x3 ∧ x3 ≤ 24) (k5 : 0 ≤ x5 ∧ x5 ≤ 29) (k6 : (-2) ≤ x6 ∧ x6 ≤ 26) (k8 : 0 ≤ x8 ∧ x8 ≤ 24) (k10 : 0 ≤ x10 ∧ x10 ≤ 24) (k11 : 0 ≤ x11 ∧ x11 ≤ 24) (k12 : 0 ≤ x12 ∧ x12 ≤ 24) (k14 : 1 ≤ x14 ∧ x14 ≤ 25) (d0 : x3 + 1 ≤ x14 ∧ x14 ≤ x3 + 1) (d1 : x12 + 0 ≤ x11 ∧ x11 ≤ x12 + 4294967296) (d2 : x1 + (-4294967296) ≤ x5 ∧ x5 ≤ x1 + (-1)) (d3 : x1 + (-4294967296) ≤ x5 ∧ x5 ≤ x1 + 0) (f0 : x14 = x3 + 1) (f1 : x12 ≤ x11) (h2 : x12 = bestWay_0 (x5)) (h4 : x11 = way_0 (x5)) (f6 : x5 < x1) (f7 : x8 ≠ x10) (h8 : x10 = bestWay_0 (x5)) (h9 : x8 = way_0 (x5)) (f10 : x5 < x1) (f11 : GOK (pn_0) (pm_0) (pt_0) (ph_0)) (f12 : STB (pn_0) (pm_0) (pt_0) (ph_0) (alive_0)) (f13 : STR (pn_0) (rowMany_0) (pt_0) (ph_0) (row_0)) (f14 : onlyPiece_0 = (-1)) (f15 : (-1) * rowMany_0 + ((-1) * x6 + 0) ≤ (-26)) (f16 : DRR (pn_0) (rowMany_0) (drawnNode_0) (row_0)) (f17 : DEM (pm_0) (pt_0) (ph_0) (drawnNode_0) (drawnEdge_0)) (f18 : UA (pm_0) (alive_0) (drawnEdge_0)) (f19 : (rowMany_0 + 1) ≤ pn_0) (f20 : SB1 (pn_0) (pm_0) (onlyPiece_0) (pt_0) (ph_0) (drawnEdge_0) (pieceOf_0) (drawnNode_0) (bestWay_0) (x1) (x2) (x3)) (f21 : WYM (pn_0) (wayMany_0) (drawnNode_0) (way_0)) (f22 : 1 * x2 + ((-1) * pn_0 + 0) ≤ (-1)) (f23 : 1 * x3 + ((-1) * pn_0 + 0) ≤ (-1)) (f24 : drawnNode_0 (x2) ≠ 0) (f25 : x1 = wayMany_0) (hK_0_33 : ∀ j : Int, 0 ≤ j → j < 80 → 0 ≤ pt_0 j ∧ pt_0 j ≤ 24) (hK_0_34 : ∀ j : Int, 0 ≤ j → j < 80 → 0 ≤ ph_0 j ∧ ph_0 j ≤ 24) (hK_0_35 : ∀ j : Int, 0 ≤ j → j < 80 → 0 ≤ alive_0 j ∧ alive_0 j ≤ 1) (hK_0_42 : ∀ j : Int, 0 ≤ j → j < 26 → 0 ≤ drawnNode_0 j ∧ drawnNode_0 j ≤ 1) (hK_0_43 : ∀ j : Int, 0 ≤ j → j < 80 → 0 ≤ drawnEdge_0 j ∧ drawnEdge_0 j ≤ 1) (hK_0_44 : ∀ j : Int, 0 ≤ j → j < 80 → (-1) ≤ pieceOf_0 j ∧ pieceOf_0 j ≤ 79) (hK_0_46 : ∀ j : Int, 0 ≤ j → j < 30 → 0 ≤ way_0 j ∧ way_0 j ≤ 24) (hK_0_52 : ∀ j : Int, 0 ≤ j → j < 30 → 0 ≤ bestWay_0 j ∧ bestWay_0 j ≤ 24) (hK_0_117 : ∀ j : Int, 0 ≤ j → j < 100 → 0 ≤ row_0 j ∧ row_0 j ≤ 75) (kz_0_31 : 0 ≤ pn_0 ∧ pn_0 ≤ 25) (kz_0_32 : 0 ≤ pm_0 ∧ pm_0 ≤ 80) (kz_0_45 : 0 ≤ wayMany_0 ∧ wayMany_0 ≤ 30) (kz_0_49 : (-1) ≤ onlyPiece_0 ∧ onlyPiece_0 ≤ 79) (kz_0_125 : 0 ≤ rowMany_0 ∧ rowMany_0 ≤ 100) (ex2 : gx = 0 + (1 * x6 + 0)) (ex3 : (-2) ≤ gx ∧ gx ≤ 26) : STB (pn_0) (pm_0) (pt_0) (ph_0) (alive_0) := by
  first | assumption
set_option maxHeartbeats 4000000 in
theorem vc_Mo_stOrder_31_2 (x1 : Int) (x2 : Int) (x3 : Int) (x5 : Int) (x6 : Int) (x8 : Int) (x10 : Int) (x11 : Int) (x12 : Int) (x14 : Int) (bestWay_0 : Int → Int) (way_0 : Int → Int) (pt_0 : Int → Int) (ph_0 : Int → Int) (pn_0 : Int) (pm_0 : Int) (alive_0 : Int → Int) (row_0 : Int → Int) (rowMany_0 : Int) (onlyPiece_0 : Int) (drawnNode_0 : Int → Int) (drawnEdge_0 : Int → Int) (pieceOf_0 : Int → Int) (wayMany_0 : Int) (gx : Int) (k1 : 1 ≤ x1 ∧ x1 ≤ 30) (k2 : 0 ≤ x2 ∧ x2 ≤ 24) (k3 : 0 ≤ x3 ∧ x3 ≤ 24) (k5 : 0 ≤ x5 ∧ x5 ≤ 29) (k6 : (-2) ≤ x6 ∧ x6 ≤ 26) (k8 : 0 ≤ x8 ∧ x8 ≤ 24) (k10 : 0 ≤ x10 ∧ x10 ≤ 24) (k11 : 0 ≤ x11 ∧ x11 ≤ 24) (k12 : 0 ≤ x12 ∧ x12 ≤ 24) (k14 : 1 ≤ x14 ∧ x14 ≤ 25) (d0 : x3 + 1 ≤ x14 ∧ x14 ≤ x3 + 1) (d1 : x12 + 0 ≤ x11 ∧ x11 ≤ x12 + 4294967296) (d2 : x1 + (-4294967296) ≤ x5 ∧ x5 ≤ x1 + (-1)) (d3 : x1 + (-4294967296) ≤ x5 ∧ x5 ≤ x1 + 0) (f0 : x14 = x3 + 1) (f1 : x12 ≤ x11) (h2 : x12 = bestWay_0 (x5)) (h4 : x11 = way_0 (x5)) (f6 : x5 < x1) (f7 : x8 ≠ x10) (h8 : x10 = bestWay_0 (x5)) (h9 : x8 = way_0 (x5)) (f10 : x5 < x1) (f11 : GOK (pn_0) (pm_0) (pt_0) (ph_0)) (f12 : STB (pn_0) (pm_0) (pt_0) (ph_0) (alive_0)) (f13 : STR (pn_0) (rowMany_0) (pt_0) (ph_0) (row_0)) (f14 : onlyPiece_0 = (-1)) (f15 : (-1) * rowMany_0 + ((-1) * x6 + 0) ≤ (-26)) (f16 : DRR (pn_0) (rowMany_0) (drawnNode_0) (row_0)) (f17 : DEM (pm_0) (pt_0) (ph_0) (drawnNode_0) (drawnEdge_0)) (f18 : UA (pm_0) (alive_0) (drawnEdge_0)) (f19 : (rowMany_0 + 1) ≤ pn_0) (f20 : SB1 (pn_0) (pm_0) (onlyPiece_0) (pt_0) (ph_0) (drawnEdge_0) (pieceOf_0) (drawnNode_0) (bestWay_0) (x1) (x2) (x3)) (f21 : WYM (pn_0) (wayMany_0) (drawnNode_0) (way_0)) (f22 : 1 * x2 + ((-1) * pn_0 + 0) ≤ (-1)) (f23 : 1 * x3 + ((-1) * pn_0 + 0) ≤ (-1)) (f24 : drawnNode_0 (x2) ≠ 0) (f25 : x1 = wayMany_0) (hK_0_33 : ∀ j : Int, 0 ≤ j → j < 80 → 0 ≤ pt_0 j ∧ pt_0 j ≤ 24) (hK_0_34 : ∀ j : Int, 0 ≤ j → j < 80 → 0 ≤ ph_0 j ∧ ph_0 j ≤ 24) (hK_0_35 : ∀ j : Int, 0 ≤ j → j < 80 → 0 ≤ alive_0 j ∧ alive_0 j ≤ 1) (hK_0_42 : ∀ j : Int, 0 ≤ j → j < 26 → 0 ≤ drawnNode_0 j ∧ drawnNode_0 j ≤ 1) (hK_0_43 : ∀ j : Int, 0 ≤ j → j < 80 → 0 ≤ drawnEdge_0 j ∧ drawnEdge_0 j ≤ 1) (hK_0_44 : ∀ j : Int, 0 ≤ j → j < 80 → (-1) ≤ pieceOf_0 j ∧ pieceOf_0 j ≤ 79) (hK_0_46 : ∀ j : Int, 0 ≤ j → j < 30 → 0 ≤ way_0 j ∧ way_0 j ≤ 24) (hK_0_52 : ∀ j : Int, 0 ≤ j → j < 30 → 0 ≤ bestWay_0 j ∧ bestWay_0 j ≤ 24) (hK_0_117 : ∀ j : Int, 0 ≤ j → j < 100 → 0 ≤ row_0 j ∧ row_0 j ≤ 75) (kz_0_31 : 0 ≤ pn_0 ∧ pn_0 ≤ 25) (kz_0_32 : 0 ≤ pm_0 ∧ pm_0 ≤ 80) (kz_0_45 : 0 ≤ wayMany_0 ∧ wayMany_0 ≤ 30) (kz_0_49 : (-1) ≤ onlyPiece_0 ∧ onlyPiece_0 ≤ 79) (kz_0_125 : 0 ≤ rowMany_0 ∧ rowMany_0 ≤ 100) (ex2 : gx = 0 + (1 * x6 + 0)) (ex3 : (-2) ≤ gx ∧ gx ≤ 26) : STR (pn_0) (rowMany_0) (pt_0) (ph_0) (row_0) := by
  first | assumption
set_option maxHeartbeats 4000000 in
theorem vc_Mo_stOrder_31_3 (x1 : Int) (x2 : Int) (x3 : Int) (x5 : Int) (x6 : Int) (x8 : Int) (x10 : Int) (x11 : Int) (x12 : Int) (x14 : Int) (bestWay_0 : Int → Int) (way_0 : Int → Int) (pt_0 : Int → Int) (ph_0 : Int → Int) (pn_0 : Int) (pm_0 : Int) (alive_0 : Int → Int) (row_0 : Int → Int) (rowMany_0 : Int) (onlyPiece_0 : Int) (drawnNode_0 : Int → Int) (drawnEdge_0 : Int → Int) (pieceOf_0 : Int → Int) (wayMany_0 : Int) (gx : Int) (k1 : 1 ≤ x1 ∧ x1 ≤ 30) (k2 : 0 ≤ x2 ∧ x2 ≤ 24) (k3 : 0 ≤ x3 ∧ x3 ≤ 24) (k5 : 0 ≤ x5 ∧ x5 ≤ 29) (k6 : (-2) ≤ x6 ∧ x6 ≤ 26) (k8 : 0 ≤ x8 ∧ x8 ≤ 24) (k10 : 0 ≤ x10 ∧ x10 ≤ 24) (k11 : 0 ≤ x11 ∧ x11 ≤ 24) (k12 : 0 ≤ x12 ∧ x12 ≤ 24) (k14 : 1 ≤ x14 ∧ x14 ≤ 25) (d0 : x3 + 1 ≤ x14 ∧ x14 ≤ x3 + 1) (d1 : x12 + 0 ≤ x11 ∧ x11 ≤ x12 + 4294967296) (d2 : x1 + (-4294967296) ≤ x5 ∧ x5 ≤ x1 + (-1)) (d3 : x1 + (-4294967296) ≤ x5 ∧ x5 ≤ x1 + 0) (f0 : x14 = x3 + 1) (f1 : x12 ≤ x11) (h2 : x12 = bestWay_0 (x5)) (h4 : x11 = way_0 (x5)) (f6 : x5 < x1) (f7 : x8 ≠ x10) (h8 : x10 = bestWay_0 (x5)) (h9 : x8 = way_0 (x5)) (f10 : x5 < x1) (f11 : GOK (pn_0) (pm_0) (pt_0) (ph_0)) (f12 : STB (pn_0) (pm_0) (pt_0) (ph_0) (alive_0)) (f13 : STR (pn_0) (rowMany_0) (pt_0) (ph_0) (row_0)) (f14 : onlyPiece_0 = (-1)) (f15 : (-1) * rowMany_0 + ((-1) * x6 + 0) ≤ (-26)) (f16 : DRR (pn_0) (rowMany_0) (drawnNode_0) (row_0)) (f17 : DEM (pm_0) (pt_0) (ph_0) (drawnNode_0) (drawnEdge_0)) (f18 : UA (pm_0) (alive_0) (drawnEdge_0)) (f19 : (rowMany_0 + 1) ≤ pn_0) (f20 : SB1 (pn_0) (pm_0) (onlyPiece_0) (pt_0) (ph_0) (drawnEdge_0) (pieceOf_0) (drawnNode_0) (bestWay_0) (x1) (x2) (x3)) (f21 : WYM (pn_0) (wayMany_0) (drawnNode_0) (way_0)) (f22 : 1 * x2 + ((-1) * pn_0 + 0) ≤ (-1)) (f23 : 1 * x3 + ((-1) * pn_0 + 0) ≤ (-1)) (f24 : drawnNode_0 (x2) ≠ 0) (f25 : x1 = wayMany_0) (hK_0_33 : ∀ j : Int, 0 ≤ j → j < 80 → 0 ≤ pt_0 j ∧ pt_0 j ≤ 24) (hK_0_34 : ∀ j : Int, 0 ≤ j → j < 80 → 0 ≤ ph_0 j ∧ ph_0 j ≤ 24) (hK_0_35 : ∀ j : Int, 0 ≤ j → j < 80 → 0 ≤ alive_0 j ∧ alive_0 j ≤ 1) (hK_0_42 : ∀ j : Int, 0 ≤ j → j < 26 → 0 ≤ drawnNode_0 j ∧ drawnNode_0 j ≤ 1) (hK_0_43 : ∀ j : Int, 0 ≤ j → j < 80 → 0 ≤ drawnEdge_0 j ∧ drawnEdge_0 j ≤ 1) (hK_0_44 : ∀ j : Int, 0 ≤ j → j < 80 → (-1) ≤ pieceOf_0 j ∧ pieceOf_0 j ≤ 79) (hK_0_46 : ∀ j : Int, 0 ≤ j → j < 30 → 0 ≤ way_0 j ∧ way_0 j ≤ 24) (hK_0_52 : ∀ j : Int, 0 ≤ j → j < 30 → 0 ≤ bestWay_0 j ∧ bestWay_0 j ≤ 24) (hK_0_117 : ∀ j : Int, 0 ≤ j → j < 100 → 0 ≤ row_0 j ∧ row_0 j ≤ 75) (kz_0_31 : 0 ≤ pn_0 ∧ pn_0 ≤ 25) (kz_0_32 : 0 ≤ pm_0 ∧ pm_0 ≤ 80) (kz_0_45 : 0 ≤ wayMany_0 ∧ wayMany_0 ≤ 30) (kz_0_49 : (-1) ≤ onlyPiece_0 ∧ onlyPiece_0 ≤ 79) (kz_0_125 : 0 ≤ rowMany_0 ∧ rowMany_0 ≤ 100) (ex2 : gx = 0 + (1 * x6 + 0)) (ex3 : (-2) ≤ gx ∧ gx ≤ 26) : onlyPiece_0 = (-1) := by
  first
    | omega
    | (have h := ‹STB _ _ _ _ _›.1.2.2; omega)
    | (have h := ‹STR _ _ _ _ _›.1; omega)
    | (have h := ‹STR _ _ _ _ _›.1
       have w := ‹STR _ _ _ _ _›.2.1 x1 (by omega) (by omega)
       omega)
    | (have h := bc_len ‹BC1 _ _ _ _ _ _ _›
       have h2 := ‹STR _ _ _ _ _›.1
       omega)
    | (have h := (sb_way ‹SB1 _ _ _ _ _ _ _ _ _ _ _ _› (by omega)).1
       have h2 := ‹STR _ _ _ _ _›.1
       omega)
    | (have h := ‹WYM _ _ _ _›.1
       have h2 := ‹STR _ _ _ _ _›.1
       omega)
set_option maxHeartbeats 4000000 in
theorem vc_Mo_stOrder_31_4 (x1 : Int) (x2 : Int) (x3 : Int) (x5 : Int) (x6 : Int) (x8 : Int) (x10 : Int) (x11 : Int) (x12 : Int) (x14 : Int) (bestWay_0 : Int → Int) (way_0 : Int → Int) (pt_0 : Int → Int) (ph_0 : Int → Int) (pn_0 : Int) (pm_0 : Int) (alive_0 : Int → Int) (row_0 : Int → Int) (rowMany_0 : Int) (onlyPiece_0 : Int) (drawnNode_0 : Int → Int) (drawnEdge_0 : Int → Int) (pieceOf_0 : Int → Int) (wayMany_0 : Int) (gx : Int) (k1 : 1 ≤ x1 ∧ x1 ≤ 30) (k2 : 0 ≤ x2 ∧ x2 ≤ 24) (k3 : 0 ≤ x3 ∧ x3 ≤ 24) (k5 : 0 ≤ x5 ∧ x5 ≤ 29) (k6 : (-2) ≤ x6 ∧ x6 ≤ 26) (k8 : 0 ≤ x8 ∧ x8 ≤ 24) (k10 : 0 ≤ x10 ∧ x10 ≤ 24) (k11 : 0 ≤ x11 ∧ x11 ≤ 24) (k12 : 0 ≤ x12 ∧ x12 ≤ 24) (k14 : 1 ≤ x14 ∧ x14 ≤ 25) (d0 : x3 + 1 ≤ x14 ∧ x14 ≤ x3 + 1) (d1 : x12 + 0 ≤ x11 ∧ x11 ≤ x12 + 4294967296) (d2 : x1 + (-4294967296) ≤ x5 ∧ x5 ≤ x1 + (-1)) (d3 : x1 + (-4294967296) ≤ x5 ∧ x5 ≤ x1 + 0) (f0 : x14 = x3 + 1) (f1 : x12 ≤ x11) (h2 : x12 = bestWay_0 (x5)) (h4 : x11 = way_0 (x5)) (f6 : x5 < x1) (f7 : x8 ≠ x10) (h8 : x10 = bestWay_0 (x5)) (h9 : x8 = way_0 (x5)) (f10 : x5 < x1) (f11 : GOK (pn_0) (pm_0) (pt_0) (ph_0)) (f12 : STB (pn_0) (pm_0) (pt_0) (ph_0) (alive_0)) (f13 : STR (pn_0) (rowMany_0) (pt_0) (ph_0) (row_0)) (f14 : onlyPiece_0 = (-1)) (f15 : (-1) * rowMany_0 + ((-1) * x6 + 0) ≤ (-26)) (f16 : DRR (pn_0) (rowMany_0) (drawnNode_0) (row_0)) (f17 : DEM (pm_0) (pt_0) (ph_0) (drawnNode_0) (drawnEdge_0)) (f18 : UA (pm_0) (alive_0) (drawnEdge_0)) (f19 : (rowMany_0 + 1) ≤ pn_0) (f20 : SB1 (pn_0) (pm_0) (onlyPiece_0) (pt_0) (ph_0) (drawnEdge_0) (pieceOf_0) (drawnNode_0) (bestWay_0) (x1) (x2) (x3)) (f21 : WYM (pn_0) (wayMany_0) (drawnNode_0) (way_0)) (f22 : 1 * x2 + ((-1) * pn_0 + 0) ≤ (-1)) (f23 : 1 * x3 + ((-1) * pn_0 + 0) ≤ (-1)) (f24 : drawnNode_0 (x2) ≠ 0) (f25 : x1 = wayMany_0) (hK_0_33 : ∀ j : Int, 0 ≤ j → j < 80 → 0 ≤ pt_0 j ∧ pt_0 j ≤ 24) (hK_0_34 : ∀ j : Int, 0 ≤ j → j < 80 → 0 ≤ ph_0 j ∧ ph_0 j ≤ 24) (hK_0_35 : ∀ j : Int, 0 ≤ j → j < 80 → 0 ≤ alive_0 j ∧ alive_0 j ≤ 1) (hK_0_42 : ∀ j : Int, 0 ≤ j → j < 26 → 0 ≤ drawnNode_0 j ∧ drawnNode_0 j ≤ 1) (hK_0_43 : ∀ j : Int, 0 ≤ j → j < 80 → 0 ≤ drawnEdge_0 j ∧ drawnEdge_0 j ≤ 1) (hK_0_44 : ∀ j : Int, 0 ≤ j → j < 80 → (-1) ≤ pieceOf_0 j ∧ pieceOf_0 j ≤ 79) (hK_0_46 : ∀ j : Int, 0 ≤ j → j < 30 → 0 ≤ way_0 j ∧ way_0 j ≤ 24) (hK_0_52 : ∀ j : Int, 0 ≤ j → j < 30 → 0 ≤ bestWay_0 j ∧ bestWay_0 j ≤ 24) (hK_0_117 : ∀ j : Int, 0 ≤ j → j < 100 → 0 ≤ row_0 j ∧ row_0 j ≤ 75) (kz_0_31 : 0 ≤ pn_0 ∧ pn_0 ≤ 25) (kz_0_32 : 0 ≤ pm_0 ∧ pm_0 ≤ 80) (kz_0_45 : 0 ≤ wayMany_0 ∧ wayMany_0 ≤ 30) (kz_0_49 : (-1) ≤ onlyPiece_0 ∧ onlyPiece_0 ≤ 79) (kz_0_125 : 0 ≤ rowMany_0 ∧ rowMany_0 ≤ 100) (ex2 : gx = 0 + (1 * x6 + 0)) (ex3 : (-2) ≤ gx ∧ gx ≤ 26) : (-1) * rowMany_0 + ((-1) * gx + 0) ≤ (-26) := by
  first
    | omega
    | (have h := ‹STB _ _ _ _ _›.1.2.2; omega)
    | (have h := ‹STR _ _ _ _ _›.1; omega)
    | (have h := ‹STR _ _ _ _ _›.1
       have w := ‹STR _ _ _ _ _›.2.1 x1 (by omega) (by omega)
       omega)
    | (have h := bc_len ‹BC1 _ _ _ _ _ _ _›
       have h2 := ‹STR _ _ _ _ _›.1
       omega)
    | (have h := (sb_way ‹SB1 _ _ _ _ _ _ _ _ _ _ _ _› (by omega)).1
       have h2 := ‹STR _ _ _ _ _›.1
       omega)
    | (have h := ‹WYM _ _ _ _›.1
       have h2 := ‹STR _ _ _ _ _›.1
       omega)
set_option maxHeartbeats 4000000 in
theorem vc_Mo_stOrder_31_5 (x1 : Int) (x2 : Int) (x3 : Int) (x5 : Int) (x6 : Int) (x8 : Int) (x10 : Int) (x11 : Int) (x12 : Int) (x14 : Int) (bestWay_0 : Int → Int) (way_0 : Int → Int) (pt_0 : Int → Int) (ph_0 : Int → Int) (pn_0 : Int) (pm_0 : Int) (alive_0 : Int → Int) (row_0 : Int → Int) (rowMany_0 : Int) (onlyPiece_0 : Int) (drawnNode_0 : Int → Int) (drawnEdge_0 : Int → Int) (pieceOf_0 : Int → Int) (wayMany_0 : Int) (gx : Int) (k1 : 1 ≤ x1 ∧ x1 ≤ 30) (k2 : 0 ≤ x2 ∧ x2 ≤ 24) (k3 : 0 ≤ x3 ∧ x3 ≤ 24) (k5 : 0 ≤ x5 ∧ x5 ≤ 29) (k6 : (-2) ≤ x6 ∧ x6 ≤ 26) (k8 : 0 ≤ x8 ∧ x8 ≤ 24) (k10 : 0 ≤ x10 ∧ x10 ≤ 24) (k11 : 0 ≤ x11 ∧ x11 ≤ 24) (k12 : 0 ≤ x12 ∧ x12 ≤ 24) (k14 : 1 ≤ x14 ∧ x14 ≤ 25) (d0 : x3 + 1 ≤ x14 ∧ x14 ≤ x3 + 1) (d1 : x12 + 0 ≤ x11 ∧ x11 ≤ x12 + 4294967296) (d2 : x1 + (-4294967296) ≤ x5 ∧ x5 ≤ x1 + (-1)) (d3 : x1 + (-4294967296) ≤ x5 ∧ x5 ≤ x1 + 0) (f0 : x14 = x3 + 1) (f1 : x12 ≤ x11) (h2 : x12 = bestWay_0 (x5)) (h4 : x11 = way_0 (x5)) (f6 : x5 < x1) (f7 : x8 ≠ x10) (h8 : x10 = bestWay_0 (x5)) (h9 : x8 = way_0 (x5)) (f10 : x5 < x1) (f11 : GOK (pn_0) (pm_0) (pt_0) (ph_0)) (f12 : STB (pn_0) (pm_0) (pt_0) (ph_0) (alive_0)) (f13 : STR (pn_0) (rowMany_0) (pt_0) (ph_0) (row_0)) (f14 : onlyPiece_0 = (-1)) (f15 : (-1) * rowMany_0 + ((-1) * x6 + 0) ≤ (-26)) (f16 : DRR (pn_0) (rowMany_0) (drawnNode_0) (row_0)) (f17 : DEM (pm_0) (pt_0) (ph_0) (drawnNode_0) (drawnEdge_0)) (f18 : UA (pm_0) (alive_0) (drawnEdge_0)) (f19 : (rowMany_0 + 1) ≤ pn_0) (f20 : SB1 (pn_0) (pm_0) (onlyPiece_0) (pt_0) (ph_0) (drawnEdge_0) (pieceOf_0) (drawnNode_0) (bestWay_0) (x1) (x2) (x3)) (f21 : WYM (pn_0) (wayMany_0) (drawnNode_0) (way_0)) (f22 : 1 * x2 + ((-1) * pn_0 + 0) ≤ (-1)) (f23 : 1 * x3 + ((-1) * pn_0 + 0) ≤ (-1)) (f24 : drawnNode_0 (x2) ≠ 0) (f25 : x1 = wayMany_0) (hK_0_33 : ∀ j : Int, 0 ≤ j → j < 80 → 0 ≤ pt_0 j ∧ pt_0 j ≤ 24) (hK_0_34 : ∀ j : Int, 0 ≤ j → j < 80 → 0 ≤ ph_0 j ∧ ph_0 j ≤ 24) (hK_0_35 : ∀ j : Int, 0 ≤ j → j < 80 → 0 ≤ alive_0 j ∧ alive_0 j ≤ 1) (hK_0_42 : ∀ j : Int, 0 ≤ j → j < 26 → 0 ≤ drawnNode_0 j ∧ drawnNode_0 j ≤ 1) (hK_0_43 : ∀ j : Int, 0 ≤ j → j < 80 → 0 ≤ drawnEdge_0 j ∧ drawnEdge_0 j ≤ 1) (hK_0_44 : ∀ j : Int, 0 ≤ j → j < 80 → (-1) ≤ pieceOf_0 j ∧ pieceOf_0 j ≤ 79) (hK_0_46 : ∀ j : Int, 0 ≤ j → j < 30 → 0 ≤ way_0 j ∧ way_0 j ≤ 24) (hK_0_52 : ∀ j : Int, 0 ≤ j → j < 30 → 0 ≤ bestWay_0 j ∧ bestWay_0 j ≤ 24) (hK_0_117 : ∀ j : Int, 0 ≤ j → j < 100 → 0 ≤ row_0 j ∧ row_0 j ≤ 75) (kz_0_31 : 0 ≤ pn_0 ∧ pn_0 ≤ 25) (kz_0_32 : 0 ≤ pm_0 ∧ pm_0 ≤ 80) (kz_0_45 : 0 ≤ wayMany_0 ∧ wayMany_0 ≤ 30) (kz_0_49 : (-1) ≤ onlyPiece_0 ∧ onlyPiece_0 ≤ 79) (kz_0_125 : 0 ≤ rowMany_0 ∧ rowMany_0 ≤ 100) (ex2 : gx = 0 + (1 * x6 + 0)) (ex3 : (-2) ≤ gx ∧ gx ≤ 26) : DRR (pn_0) (rowMany_0) (drawnNode_0) (row_0) := by
  first | assumption
set_option maxHeartbeats 4000000 in
theorem vc_Mo_stOrder_31_6 (x1 : Int) (x2 : Int) (x3 : Int) (x5 : Int) (x6 : Int) (x8 : Int) (x10 : Int) (x11 : Int) (x12 : Int) (x14 : Int) (bestWay_0 : Int → Int) (way_0 : Int → Int) (pt_0 : Int → Int) (ph_0 : Int → Int) (pn_0 : Int) (pm_0 : Int) (alive_0 : Int → Int) (row_0 : Int → Int) (rowMany_0 : Int) (onlyPiece_0 : Int) (drawnNode_0 : Int → Int) (drawnEdge_0 : Int → Int) (pieceOf_0 : Int → Int) (wayMany_0 : Int) (gx : Int) (k1 : 1 ≤ x1 ∧ x1 ≤ 30) (k2 : 0 ≤ x2 ∧ x2 ≤ 24) (k3 : 0 ≤ x3 ∧ x3 ≤ 24) (k5 : 0 ≤ x5 ∧ x5 ≤ 29) (k6 : (-2) ≤ x6 ∧ x6 ≤ 26) (k8 : 0 ≤ x8 ∧ x8 ≤ 24) (k10 : 0 ≤ x10 ∧ x10 ≤ 24) (k11 : 0 ≤ x11 ∧ x11 ≤ 24) (k12 : 0 ≤ x12 ∧ x12 ≤ 24) (k14 : 1 ≤ x14 ∧ x14 ≤ 25) (d0 : x3 + 1 ≤ x14 ∧ x14 ≤ x3 + 1) (d1 : x12 + 0 ≤ x11 ∧ x11 ≤ x12 + 4294967296) (d2 : x1 + (-4294967296) ≤ x5 ∧ x5 ≤ x1 + (-1)) (d3 : x1 + (-4294967296) ≤ x5 ∧ x5 ≤ x1 + 0) (f0 : x14 = x3 + 1) (f1 : x12 ≤ x11) (h2 : x12 = bestWay_0 (x5)) (h4 : x11 = way_0 (x5)) (f6 : x5 < x1) (f7 : x8 ≠ x10) (h8 : x10 = bestWay_0 (x5)) (h9 : x8 = way_0 (x5)) (f10 : x5 < x1) (f11 : GOK (pn_0) (pm_0) (pt_0) (ph_0)) (f12 : STB (pn_0) (pm_0) (pt_0) (ph_0) (alive_0)) (f13 : STR (pn_0) (rowMany_0) (pt_0) (ph_0) (row_0)) (f14 : onlyPiece_0 = (-1)) (f15 : (-1) * rowMany_0 + ((-1) * x6 + 0) ≤ (-26)) (f16 : DRR (pn_0) (rowMany_0) (drawnNode_0) (row_0)) (f17 : DEM (pm_0) (pt_0) (ph_0) (drawnNode_0) (drawnEdge_0)) (f18 : UA (pm_0) (alive_0) (drawnEdge_0)) (f19 : (rowMany_0 + 1) ≤ pn_0) (f20 : SB1 (pn_0) (pm_0) (onlyPiece_0) (pt_0) (ph_0) (drawnEdge_0) (pieceOf_0) (drawnNode_0) (bestWay_0) (x1) (x2) (x3)) (f21 : WYM (pn_0) (wayMany_0) (drawnNode_0) (way_0)) (f22 : 1 * x2 + ((-1) * pn_0 + 0) ≤ (-1)) (f23 : 1 * x3 + ((-1) * pn_0 + 0) ≤ (-1)) (f24 : drawnNode_0 (x2) ≠ 0) (f25 : x1 = wayMany_0) (hK_0_33 : ∀ j : Int, 0 ≤ j → j < 80 → 0 ≤ pt_0 j ∧ pt_0 j ≤ 24) (hK_0_34 : ∀ j : Int, 0 ≤ j → j < 80 → 0 ≤ ph_0 j ∧ ph_0 j ≤ 24) (hK_0_35 : ∀ j : Int, 0 ≤ j → j < 80 → 0 ≤ alive_0 j ∧ alive_0 j ≤ 1) (hK_0_42 : ∀ j : Int, 0 ≤ j → j < 26 → 0 ≤ drawnNode_0 j ∧ drawnNode_0 j ≤ 1) (hK_0_43 : ∀ j : Int, 0 ≤ j → j < 80 → 0 ≤ drawnEdge_0 j ∧ drawnEdge_0 j ≤ 1) (hK_0_44 : ∀ j : Int, 0 ≤ j → j < 80 → (-1) ≤ pieceOf_0 j ∧ pieceOf_0 j ≤ 79) (hK_0_46 : ∀ j : Int, 0 ≤ j → j < 30 → 0 ≤ way_0 j ∧ way_0 j ≤ 24) (hK_0_52 : ∀ j : Int, 0 ≤ j → j < 30 → 0 ≤ bestWay_0 j ∧ bestWay_0 j ≤ 24) (hK_0_117 : ∀ j : Int, 0 ≤ j → j < 100 → 0 ≤ row_0 j ∧ row_0 j ≤ 75) (kz_0_31 : 0 ≤ pn_0 ∧ pn_0 ≤ 25) (kz_0_32 : 0 ≤ pm_0 ∧ pm_0 ≤ 80) (kz_0_45 : 0 ≤ wayMany_0 ∧ wayMany_0 ≤ 30) (kz_0_49 : (-1) ≤ onlyPiece_0 ∧ onlyPiece_0 ≤ 79) (kz_0_125 : 0 ≤ rowMany_0 ∧ rowMany_0 ≤ 100) (ex2 : gx = 0 + (1 * x6 + 0)) (ex3 : (-2) ≤ gx ∧ gx ≤ 26) : DEM (pm_0) (pt_0) (ph_0) (drawnNode_0) (drawnEdge_0) := by
  first | assumption
set_option maxHeartbeats 4000000 in
theorem vc_Mo_stOrder_31_7 (x1 : Int) (x2 : Int) (x3 : Int) (x5 : Int) (x6 : Int) (x8 : Int) (x10 : Int) (x11 : Int) (x12 : Int) (x14 : Int) (bestWay_0 : Int → Int) (way_0 : Int → Int) (pt_0 : Int → Int) (ph_0 : Int → Int) (pn_0 : Int) (pm_0 : Int) (alive_0 : Int → Int) (row_0 : Int → Int) (rowMany_0 : Int) (onlyPiece_0 : Int) (drawnNode_0 : Int → Int) (drawnEdge_0 : Int → Int) (pieceOf_0 : Int → Int) (wayMany_0 : Int) (gx : Int) (k1 : 1 ≤ x1 ∧ x1 ≤ 30) (k2 : 0 ≤ x2 ∧ x2 ≤ 24) (k3 : 0 ≤ x3 ∧ x3 ≤ 24) (k5 : 0 ≤ x5 ∧ x5 ≤ 29) (k6 : (-2) ≤ x6 ∧ x6 ≤ 26) (k8 : 0 ≤ x8 ∧ x8 ≤ 24) (k10 : 0 ≤ x10 ∧ x10 ≤ 24) (k11 : 0 ≤ x11 ∧ x11 ≤ 24) (k12 : 0 ≤ x12 ∧ x12 ≤ 24) (k14 : 1 ≤ x14 ∧ x14 ≤ 25) (d0 : x3 + 1 ≤ x14 ∧ x14 ≤ x3 + 1) (d1 : x12 + 0 ≤ x11 ∧ x11 ≤ x12 + 4294967296) (d2 : x1 + (-4294967296) ≤ x5 ∧ x5 ≤ x1 + (-1)) (d3 : x1 + (-4294967296) ≤ x5 ∧ x5 ≤ x1 + 0) (f0 : x14 = x3 + 1) (f1 : x12 ≤ x11) (h2 : x12 = bestWay_0 (x5)) (h4 : x11 = way_0 (x5)) (f6 : x5 < x1) (f7 : x8 ≠ x10) (h8 : x10 = bestWay_0 (x5)) (h9 : x8 = way_0 (x5)) (f10 : x5 < x1) (f11 : GOK (pn_0) (pm_0) (pt_0) (ph_0)) (f12 : STB (pn_0) (pm_0) (pt_0) (ph_0) (alive_0)) (f13 : STR (pn_0) (rowMany_0) (pt_0) (ph_0) (row_0)) (f14 : onlyPiece_0 = (-1)) (f15 : (-1) * rowMany_0 + ((-1) * x6 + 0) ≤ (-26)) (f16 : DRR (pn_0) (rowMany_0) (drawnNode_0) (row_0)) (f17 : DEM (pm_0) (pt_0) (ph_0) (drawnNode_0) (drawnEdge_0)) (f18 : UA (pm_0) (alive_0) (drawnEdge_0)) (f19 : (rowMany_0 + 1) ≤ pn_0) (f20 : SB1 (pn_0) (pm_0) (onlyPiece_0) (pt_0) (ph_0) (drawnEdge_0) (pieceOf_0) (drawnNode_0) (bestWay_0) (x1) (x2) (x3)) (f21 : WYM (pn_0) (wayMany_0) (drawnNode_0) (way_0)) (f22 : 1 * x2 + ((-1) * pn_0 + 0) ≤ (-1)) (f23 : 1 * x3 + ((-1) * pn_0 + 0) ≤ (-1)) (f24 : drawnNode_0 (x2) ≠ 0) (f25 : x1 = wayMany_0) (hK_0_33 : ∀ j : Int, 0 ≤ j → j < 80 → 0 ≤ pt_0 j ∧ pt_0 j ≤ 24) (hK_0_34 : ∀ j : Int, 0 ≤ j → j < 80 → 0 ≤ ph_0 j ∧ ph_0 j ≤ 24) (hK_0_35 : ∀ j : Int, 0 ≤ j → j < 80 → 0 ≤ alive_0 j ∧ alive_0 j ≤ 1) (hK_0_42 : ∀ j : Int, 0 ≤ j → j < 26 → 0 ≤ drawnNode_0 j ∧ drawnNode_0 j ≤ 1) (hK_0_43 : ∀ j : Int, 0 ≤ j → j < 80 → 0 ≤ drawnEdge_0 j ∧ drawnEdge_0 j ≤ 1) (hK_0_44 : ∀ j : Int, 0 ≤ j → j < 80 → (-1) ≤ pieceOf_0 j ∧ pieceOf_0 j ≤ 79) (hK_0_46 : ∀ j : Int, 0 ≤ j → j < 30 → 0 ≤ way_0 j ∧ way_0 j ≤ 24) (hK_0_52 : ∀ j : Int, 0 ≤ j → j < 30 → 0 ≤ bestWay_0 j ∧ bestWay_0 j ≤ 24) (hK_0_117 : ∀ j : Int, 0 ≤ j → j < 100 → 0 ≤ row_0 j ∧ row_0 j ≤ 75) (kz_0_31 : 0 ≤ pn_0 ∧ pn_0 ≤ 25) (kz_0_32 : 0 ≤ pm_0 ∧ pm_0 ≤ 80) (kz_0_45 : 0 ≤ wayMany_0 ∧ wayMany_0 ≤ 30) (kz_0_49 : (-1) ≤ onlyPiece_0 ∧ onlyPiece_0 ≤ 79) (kz_0_125 : 0 ≤ rowMany_0 ∧ rowMany_0 ≤ 100) (ex2 : gx = 0 + (1 * x6 + 0)) (ex3 : (-2) ≤ gx ∧ gx ≤ 26) : UA (pm_0) (alive_0) (drawnEdge_0) := by
  first | assumption
set_option maxHeartbeats 4000000 in
theorem vc_Mo_stOrder_31_8 (x1 : Int) (x2 : Int) (x3 : Int) (x5 : Int) (x6 : Int) (x8 : Int) (x10 : Int) (x11 : Int) (x12 : Int) (x14 : Int) (bestWay_0 : Int → Int) (way_0 : Int → Int) (pt_0 : Int → Int) (ph_0 : Int → Int) (pn_0 : Int) (pm_0 : Int) (alive_0 : Int → Int) (row_0 : Int → Int) (rowMany_0 : Int) (onlyPiece_0 : Int) (drawnNode_0 : Int → Int) (drawnEdge_0 : Int → Int) (pieceOf_0 : Int → Int) (wayMany_0 : Int) (gx : Int) (k1 : 1 ≤ x1 ∧ x1 ≤ 30) (k2 : 0 ≤ x2 ∧ x2 ≤ 24) (k3 : 0 ≤ x3 ∧ x3 ≤ 24) (k5 : 0 ≤ x5 ∧ x5 ≤ 29) (k6 : (-2) ≤ x6 ∧ x6 ≤ 26) (k8 : 0 ≤ x8 ∧ x8 ≤ 24) (k10 : 0 ≤ x10 ∧ x10 ≤ 24) (k11 : 0 ≤ x11 ∧ x11 ≤ 24) (k12 : 0 ≤ x12 ∧ x12 ≤ 24) (k14 : 1 ≤ x14 ∧ x14 ≤ 25) (d0 : x3 + 1 ≤ x14 ∧ x14 ≤ x3 + 1) (d1 : x12 + 0 ≤ x11 ∧ x11 ≤ x12 + 4294967296) (d2 : x1 + (-4294967296) ≤ x5 ∧ x5 ≤ x1 + (-1)) (d3 : x1 + (-4294967296) ≤ x5 ∧ x5 ≤ x1 + 0) (f0 : x14 = x3 + 1) (f1 : x12 ≤ x11) (h2 : x12 = bestWay_0 (x5)) (h4 : x11 = way_0 (x5)) (f6 : x5 < x1) (f7 : x8 ≠ x10) (h8 : x10 = bestWay_0 (x5)) (h9 : x8 = way_0 (x5)) (f10 : x5 < x1) (f11 : GOK (pn_0) (pm_0) (pt_0) (ph_0)) (f12 : STB (pn_0) (pm_0) (pt_0) (ph_0) (alive_0)) (f13 : STR (pn_0) (rowMany_0) (pt_0) (ph_0) (row_0)) (f14 : onlyPiece_0 = (-1)) (f15 : (-1) * rowMany_0 + ((-1) * x6 + 0) ≤ (-26)) (f16 : DRR (pn_0) (rowMany_0) (drawnNode_0) (row_0)) (f17 : DEM (pm_0) (pt_0) (ph_0) (drawnNode_0) (drawnEdge_0)) (f18 : UA (pm_0) (alive_0) (drawnEdge_0)) (f19 : (rowMany_0 + 1) ≤ pn_0) (f20 : SB1 (pn_0) (pm_0) (onlyPiece_0) (pt_0) (ph_0) (drawnEdge_0) (pieceOf_0) (drawnNode_0) (bestWay_0) (x1) (x2) (x3)) (f21 : WYM (pn_0) (wayMany_0) (drawnNode_0) (way_0)) (f22 : 1 * x2 + ((-1) * pn_0 + 0) ≤ (-1)) (f23 : 1 * x3 + ((-1) * pn_0 + 0) ≤ (-1)) (f24 : drawnNode_0 (x2) ≠ 0) (f25 : x1 = wayMany_0) (hK_0_33 : ∀ j : Int, 0 ≤ j → j < 80 → 0 ≤ pt_0 j ∧ pt_0 j ≤ 24) (hK_0_34 : ∀ j : Int, 0 ≤ j → j < 80 → 0 ≤ ph_0 j ∧ ph_0 j ≤ 24) (hK_0_35 : ∀ j : Int, 0 ≤ j → j < 80 → 0 ≤ alive_0 j ∧ alive_0 j ≤ 1) (hK_0_42 : ∀ j : Int, 0 ≤ j → j < 26 → 0 ≤ drawnNode_0 j ∧ drawnNode_0 j ≤ 1) (hK_0_43 : ∀ j : Int, 0 ≤ j → j < 80 → 0 ≤ drawnEdge_0 j ∧ drawnEdge_0 j ≤ 1) (hK_0_44 : ∀ j : Int, 0 ≤ j → j < 80 → (-1) ≤ pieceOf_0 j ∧ pieceOf_0 j ≤ 79) (hK_0_46 : ∀ j : Int, 0 ≤ j → j < 30 → 0 ≤ way_0 j ∧ way_0 j ≤ 24) (hK_0_52 : ∀ j : Int, 0 ≤ j → j < 30 → 0 ≤ bestWay_0 j ∧ bestWay_0 j ≤ 24) (hK_0_117 : ∀ j : Int, 0 ≤ j → j < 100 → 0 ≤ row_0 j ∧ row_0 j ≤ 75) (kz_0_31 : 0 ≤ pn_0 ∧ pn_0 ≤ 25) (kz_0_32 : 0 ≤ pm_0 ∧ pm_0 ≤ 80) (kz_0_45 : 0 ≤ wayMany_0 ∧ wayMany_0 ≤ 30) (kz_0_49 : (-1) ≤ onlyPiece_0 ∧ onlyPiece_0 ≤ 79) (kz_0_125 : 0 ≤ rowMany_0 ∧ rowMany_0 ≤ 100) (ex2 : gx = 0 + (1 * x6 + 0)) (ex3 : (-2) ≤ gx ∧ gx ≤ 26) : (rowMany_0 + 1) ≤ pn_0 := by
  first
    | omega
    | (have h := ‹STB _ _ _ _ _›.1.2.2; omega)
    | (have h := ‹STR _ _ _ _ _›.1; omega)
    | (have h := ‹STR _ _ _ _ _›.1
       have w := ‹STR _ _ _ _ _›.2.1 x1 (by omega) (by omega)
       omega)
    | (have h := bc_len ‹BC1 _ _ _ _ _ _ _›
       have h2 := ‹STR _ _ _ _ _›.1
       omega)
    | (have h := (sb_way ‹SB1 _ _ _ _ _ _ _ _ _ _ _ _› (by omega)).1
       have h2 := ‹STR _ _ _ _ _›.1
       omega)
    | (have h := ‹WYM _ _ _ _›.1
       have h2 := ‹STR _ _ _ _ _›.1
       omega)
set_option maxHeartbeats 4000000 in
theorem vc_Mo_stOrder_31_9 (x1 : Int) (x2 : Int) (x3 : Int) (x5 : Int) (x6 : Int) (x8 : Int) (x10 : Int) (x11 : Int) (x12 : Int) (x14 : Int) (bestWay_0 : Int → Int) (way_0 : Int → Int) (pt_0 : Int → Int) (ph_0 : Int → Int) (pn_0 : Int) (pm_0 : Int) (alive_0 : Int → Int) (row_0 : Int → Int) (rowMany_0 : Int) (onlyPiece_0 : Int) (drawnNode_0 : Int → Int) (drawnEdge_0 : Int → Int) (pieceOf_0 : Int → Int) (wayMany_0 : Int) (gx : Int) (k1 : 1 ≤ x1 ∧ x1 ≤ 30) (k2 : 0 ≤ x2 ∧ x2 ≤ 24) (k3 : 0 ≤ x3 ∧ x3 ≤ 24) (k5 : 0 ≤ x5 ∧ x5 ≤ 29) (k6 : (-2) ≤ x6 ∧ x6 ≤ 26) (k8 : 0 ≤ x8 ∧ x8 ≤ 24) (k10 : 0 ≤ x10 ∧ x10 ≤ 24) (k11 : 0 ≤ x11 ∧ x11 ≤ 24) (k12 : 0 ≤ x12 ∧ x12 ≤ 24) (k14 : 1 ≤ x14 ∧ x14 ≤ 25) (d0 : x3 + 1 ≤ x14 ∧ x14 ≤ x3 + 1) (d1 : x12 + 0 ≤ x11 ∧ x11 ≤ x12 + 4294967296) (d2 : x1 + (-4294967296) ≤ x5 ∧ x5 ≤ x1 + (-1)) (d3 : x1 + (-4294967296) ≤ x5 ∧ x5 ≤ x1 + 0) (f0 : x14 = x3 + 1) (f1 : x12 ≤ x11) (h2 : x12 = bestWay_0 (x5)) (h4 : x11 = way_0 (x5)) (f6 : x5 < x1) (f7 : x8 ≠ x10) (h8 : x10 = bestWay_0 (x5)) (h9 : x8 = way_0 (x5)) (f10 : x5 < x1) (f11 : GOK (pn_0) (pm_0) (pt_0) (ph_0)) (f12 : STB (pn_0) (pm_0) (pt_0) (ph_0) (alive_0)) (f13 : STR (pn_0) (rowMany_0) (pt_0) (ph_0) (row_0)) (f14 : onlyPiece_0 = (-1)) (f15 : (-1) * rowMany_0 + ((-1) * x6 + 0) ≤ (-26)) (f16 : DRR (pn_0) (rowMany_0) (drawnNode_0) (row_0)) (f17 : DEM (pm_0) (pt_0) (ph_0) (drawnNode_0) (drawnEdge_0)) (f18 : UA (pm_0) (alive_0) (drawnEdge_0)) (f19 : (rowMany_0 + 1) ≤ pn_0) (f20 : SB1 (pn_0) (pm_0) (onlyPiece_0) (pt_0) (ph_0) (drawnEdge_0) (pieceOf_0) (drawnNode_0) (bestWay_0) (x1) (x2) (x3)) (f21 : WYM (pn_0) (wayMany_0) (drawnNode_0) (way_0)) (f22 : 1 * x2 + ((-1) * pn_0 + 0) ≤ (-1)) (f23 : 1 * x3 + ((-1) * pn_0 + 0) ≤ (-1)) (f24 : drawnNode_0 (x2) ≠ 0) (f25 : x1 = wayMany_0) (hK_0_33 : ∀ j : Int, 0 ≤ j → j < 80 → 0 ≤ pt_0 j ∧ pt_0 j ≤ 24) (hK_0_34 : ∀ j : Int, 0 ≤ j → j < 80 → 0 ≤ ph_0 j ∧ ph_0 j ≤ 24) (hK_0_35 : ∀ j : Int, 0 ≤ j → j < 80 → 0 ≤ alive_0 j ∧ alive_0 j ≤ 1) (hK_0_42 : ∀ j : Int, 0 ≤ j → j < 26 → 0 ≤ drawnNode_0 j ∧ drawnNode_0 j ≤ 1) (hK_0_43 : ∀ j : Int, 0 ≤ j → j < 80 → 0 ≤ drawnEdge_0 j ∧ drawnEdge_0 j ≤ 1) (hK_0_44 : ∀ j : Int, 0 ≤ j → j < 80 → (-1) ≤ pieceOf_0 j ∧ pieceOf_0 j ≤ 79) (hK_0_46 : ∀ j : Int, 0 ≤ j → j < 30 → 0 ≤ way_0 j ∧ way_0 j ≤ 24) (hK_0_52 : ∀ j : Int, 0 ≤ j → j < 30 → 0 ≤ bestWay_0 j ∧ bestWay_0 j ≤ 24) (hK_0_117 : ∀ j : Int, 0 ≤ j → j < 100 → 0 ≤ row_0 j ∧ row_0 j ≤ 75) (kz_0_31 : 0 ≤ pn_0 ∧ pn_0 ≤ 25) (kz_0_32 : 0 ≤ pm_0 ∧ pm_0 ≤ 80) (kz_0_45 : 0 ≤ wayMany_0 ∧ wayMany_0 ≤ 30) (kz_0_49 : (-1) ≤ onlyPiece_0 ∧ onlyPiece_0 ≤ 79) (kz_0_125 : 0 ≤ rowMany_0 ∧ rowMany_0 ≤ 100) (ex2 : gx = 0 + (1 * x6 + 0)) (ex3 : (-2) ≤ gx ∧ gx ≤ 26) : SB1 (pn_0) (pm_0) (onlyPiece_0) (pt_0) (ph_0) (drawnEdge_0) (pieceOf_0) (drawnNode_0) (bestWay_0) (x1) (x2) (x14) := by
  first
    | exact sb_0 ‹SA1 _ _ _ _ _ _ _ _ _ _ _› (by omega)
    | exact sb_skip ‹SB1 _ _ _ _ _ _ _ _ _ _ _ _› (by omega) (Or.inl (by omega))
    | exact sb_skip ‹SB1 _ _ _ _ _ _ _ _ _ _ _ _› (by omega) (Or.inr (by omega))
    | exact sb_now ‹SB1 _ _ _ _ _ _ _ _ _ _ _ _› (by omega) ‹SHP _ _ _ _ _ _ _ _ _ _ _ _ _ _› (by omega) (by omega)
    | exact sb_any ‹SB1 _ _ _ _ _ _ _ _ _ _ _ _› (by omega)
    | exact Or.inr (bc_way ‹BC1 _ _ _ _ _ _ _› (by omega))
set_option maxHeartbeats 4000000 in
theorem vc_Mo_stOrder_31_10 (x1 : Int) (x2 : Int) (x3 : Int) (x5 : Int) (x6 : Int) (x8 : Int) (x10 : Int) (x11 : Int) (x12 : Int) (x14 : Int) (bestWay_0 : Int → Int) (way_0 : Int → Int) (pt_0 : Int → Int) (ph_0 : Int → Int) (pn_0 : Int) (pm_0 : Int) (alive_0 : Int → Int) (row_0 : Int → Int) (rowMany_0 : Int) (onlyPiece_0 : Int) (drawnNode_0 : Int → Int) (drawnEdge_0 : Int → Int) (pieceOf_0 : Int → Int) (wayMany_0 : Int) (gx : Int) (k1 : 1 ≤ x1 ∧ x1 ≤ 30) (k2 : 0 ≤ x2 ∧ x2 ≤ 24) (k3 : 0 ≤ x3 ∧ x3 ≤ 24) (k5 : 0 ≤ x5 ∧ x5 ≤ 29) (k6 : (-2) ≤ x6 ∧ x6 ≤ 26) (k8 : 0 ≤ x8 ∧ x8 ≤ 24) (k10 : 0 ≤ x10 ∧ x10 ≤ 24) (k11 : 0 ≤ x11 ∧ x11 ≤ 24) (k12 : 0 ≤ x12 ∧ x12 ≤ 24) (k14 : 1 ≤ x14 ∧ x14 ≤ 25) (d0 : x3 + 1 ≤ x14 ∧ x14 ≤ x3 + 1) (d1 : x12 + 0 ≤ x11 ∧ x11 ≤ x12 + 4294967296) (d2 : x1 + (-4294967296) ≤ x5 ∧ x5 ≤ x1 + (-1)) (d3 : x1 + (-4294967296) ≤ x5 ∧ x5 ≤ x1 + 0) (f0 : x14 = x3 + 1) (f1 : x12 ≤ x11) (h2 : x12 = bestWay_0 (x5)) (h4 : x11 = way_0 (x5)) (f6 : x5 < x1) (f7 : x8 ≠ x10) (h8 : x10 = bestWay_0 (x5)) (h9 : x8 = way_0 (x5)) (f10 : x5 < x1) (f11 : GOK (pn_0) (pm_0) (pt_0) (ph_0)) (f12 : STB (pn_0) (pm_0) (pt_0) (ph_0) (alive_0)) (f13 : STR (pn_0) (rowMany_0) (pt_0) (ph_0) (row_0)) (f14 : onlyPiece_0 = (-1)) (f15 : (-1) * rowMany_0 + ((-1) * x6 + 0) ≤ (-26)) (f16 : DRR (pn_0) (rowMany_0) (drawnNode_0) (row_0)) (f17 : DEM (pm_0) (pt_0) (ph_0) (drawnNode_0) (drawnEdge_0)) (f18 : UA (pm_0) (alive_0) (drawnEdge_0)) (f19 : (rowMany_0 + 1) ≤ pn_0) (f20 : SB1 (pn_0) (pm_0) (onlyPiece_0) (pt_0) (ph_0) (drawnEdge_0) (pieceOf_0) (drawnNode_0) (bestWay_0) (x1) (x2) (x3)) (f21 : WYM (pn_0) (wayMany_0) (drawnNode_0) (way_0)) (f22 : 1 * x2 + ((-1) * pn_0 + 0) ≤ (-1)) (f23 : 1 * x3 + ((-1) * pn_0 + 0) ≤ (-1)) (f24 : drawnNode_0 (x2) ≠ 0) (f25 : x1 = wayMany_0) (hK_0_33 : ∀ j : Int, 0 ≤ j → j < 80 → 0 ≤ pt_0 j ∧ pt_0 j ≤ 24) (hK_0_34 : ∀ j : Int, 0 ≤ j → j < 80 → 0 ≤ ph_0 j ∧ ph_0 j ≤ 24) (hK_0_35 : ∀ j : Int, 0 ≤ j → j < 80 → 0 ≤ alive_0 j ∧ alive_0 j ≤ 1) (hK_0_42 : ∀ j : Int, 0 ≤ j → j < 26 → 0 ≤ drawnNode_0 j ∧ drawnNode_0 j ≤ 1) (hK_0_43 : ∀ j : Int, 0 ≤ j → j < 80 → 0 ≤ drawnEdge_0 j ∧ drawnEdge_0 j ≤ 1) (hK_0_44 : ∀ j : Int, 0 ≤ j → j < 80 → (-1) ≤ pieceOf_0 j ∧ pieceOf_0 j ≤ 79) (hK_0_46 : ∀ j : Int, 0 ≤ j → j < 30 → 0 ≤ way_0 j ∧ way_0 j ≤ 24) (hK_0_52 : ∀ j : Int, 0 ≤ j → j < 30 → 0 ≤ bestWay_0 j ∧ bestWay_0 j ≤ 24) (hK_0_117 : ∀ j : Int, 0 ≤ j → j < 100 → 0 ≤ row_0 j ∧ row_0 j ≤ 75) (kz_0_31 : 0 ≤ pn_0 ∧ pn_0 ≤ 25) (kz_0_32 : 0 ≤ pm_0 ∧ pm_0 ≤ 80) (kz_0_45 : 0 ≤ wayMany_0 ∧ wayMany_0 ≤ 30) (kz_0_49 : (-1) ≤ onlyPiece_0 ∧ onlyPiece_0 ≤ 79) (kz_0_125 : 0 ≤ rowMany_0 ∧ rowMany_0 ≤ 100) (ex2 : gx = 0 + (1 * x6 + 0)) (ex3 : (-2) ≤ gx ∧ gx ≤ 26) : 1 * x2 + ((-1) * pn_0 + 0) ≤ (-1) := by
  first
    | omega
    | (have h := ‹STB _ _ _ _ _›.1.2.2; omega)
    | (have h := ‹STR _ _ _ _ _›.1; omega)
    | (have h := ‹STR _ _ _ _ _›.1
       have w := ‹STR _ _ _ _ _›.2.1 x1 (by omega) (by omega)
       omega)
    | (have h := bc_len ‹BC1 _ _ _ _ _ _ _›
       have h2 := ‹STR _ _ _ _ _›.1
       omega)
    | (have h := (sb_way ‹SB1 _ _ _ _ _ _ _ _ _ _ _ _› (by omega)).1
       have h2 := ‹STR _ _ _ _ _›.1
       omega)
    | (have h := ‹WYM _ _ _ _›.1
       have h2 := ‹STR _ _ _ _ _›.1
       omega)
set_option maxHeartbeats 4000000 in
theorem vc_Mo_stOrder_31_11 (x1 : Int) (x2 : Int) (x3 : Int) (x5 : Int) (x6 : Int) (x8 : Int) (x10 : Int) (x11 : Int) (x12 : Int) (x14 : Int) (bestWay_0 : Int → Int) (way_0 : Int → Int) (pt_0 : Int → Int) (ph_0 : Int → Int) (pn_0 : Int) (pm_0 : Int) (alive_0 : Int → Int) (row_0 : Int → Int) (rowMany_0 : Int) (onlyPiece_0 : Int) (drawnNode_0 : Int → Int) (drawnEdge_0 : Int → Int) (pieceOf_0 : Int → Int) (wayMany_0 : Int) (gx : Int) (k1 : 1 ≤ x1 ∧ x1 ≤ 30) (k2 : 0 ≤ x2 ∧ x2 ≤ 24) (k3 : 0 ≤ x3 ∧ x3 ≤ 24) (k5 : 0 ≤ x5 ∧ x5 ≤ 29) (k6 : (-2) ≤ x6 ∧ x6 ≤ 26) (k8 : 0 ≤ x8 ∧ x8 ≤ 24) (k10 : 0 ≤ x10 ∧ x10 ≤ 24) (k11 : 0 ≤ x11 ∧ x11 ≤ 24) (k12 : 0 ≤ x12 ∧ x12 ≤ 24) (k14 : 1 ≤ x14 ∧ x14 ≤ 25) (d0 : x3 + 1 ≤ x14 ∧ x14 ≤ x3 + 1) (d1 : x12 + 0 ≤ x11 ∧ x11 ≤ x12 + 4294967296) (d2 : x1 + (-4294967296) ≤ x5 ∧ x5 ≤ x1 + (-1)) (d3 : x1 + (-4294967296) ≤ x5 ∧ x5 ≤ x1 + 0) (f0 : x14 = x3 + 1) (f1 : x12 ≤ x11) (h2 : x12 = bestWay_0 (x5)) (h4 : x11 = way_0 (x5)) (f6 : x5 < x1) (f7 : x8 ≠ x10) (h8 : x10 = bestWay_0 (x5)) (h9 : x8 = way_0 (x5)) (f10 : x5 < x1) (f11 : GOK (pn_0) (pm_0) (pt_0) (ph_0)) (f12 : STB (pn_0) (pm_0) (pt_0) (ph_0) (alive_0)) (f13 : STR (pn_0) (rowMany_0) (pt_0) (ph_0) (row_0)) (f14 : onlyPiece_0 = (-1)) (f15 : (-1) * rowMany_0 + ((-1) * x6 + 0) ≤ (-26)) (f16 : DRR (pn_0) (rowMany_0) (drawnNode_0) (row_0)) (f17 : DEM (pm_0) (pt_0) (ph_0) (drawnNode_0) (drawnEdge_0)) (f18 : UA (pm_0) (alive_0) (drawnEdge_0)) (f19 : (rowMany_0 + 1) ≤ pn_0) (f20 : SB1 (pn_0) (pm_0) (onlyPiece_0) (pt_0) (ph_0) (drawnEdge_0) (pieceOf_0) (drawnNode_0) (bestWay_0) (x1) (x2) (x3)) (f21 : WYM (pn_0) (wayMany_0) (drawnNode_0) (way_0)) (f22 : 1 * x2 + ((-1) * pn_0 + 0) ≤ (-1)) (f23 : 1 * x3 + ((-1) * pn_0 + 0) ≤ (-1)) (f24 : drawnNode_0 (x2) ≠ 0) (f25 : x1 = wayMany_0) (hK_0_33 : ∀ j : Int, 0 ≤ j → j < 80 → 0 ≤ pt_0 j ∧ pt_0 j ≤ 24) (hK_0_34 : ∀ j : Int, 0 ≤ j → j < 80 → 0 ≤ ph_0 j ∧ ph_0 j ≤ 24) (hK_0_35 : ∀ j : Int, 0 ≤ j → j < 80 → 0 ≤ alive_0 j ∧ alive_0 j ≤ 1) (hK_0_42 : ∀ j : Int, 0 ≤ j → j < 26 → 0 ≤ drawnNode_0 j ∧ drawnNode_0 j ≤ 1) (hK_0_43 : ∀ j : Int, 0 ≤ j → j < 80 → 0 ≤ drawnEdge_0 j ∧ drawnEdge_0 j ≤ 1) (hK_0_44 : ∀ j : Int, 0 ≤ j → j < 80 → (-1) ≤ pieceOf_0 j ∧ pieceOf_0 j ≤ 79) (hK_0_46 : ∀ j : Int, 0 ≤ j → j < 30 → 0 ≤ way_0 j ∧ way_0 j ≤ 24) (hK_0_52 : ∀ j : Int, 0 ≤ j → j < 30 → 0 ≤ bestWay_0 j ∧ bestWay_0 j ≤ 24) (hK_0_117 : ∀ j : Int, 0 ≤ j → j < 100 → 0 ≤ row_0 j ∧ row_0 j ≤ 75) (kz_0_31 : 0 ≤ pn_0 ∧ pn_0 ≤ 25) (kz_0_32 : 0 ≤ pm_0 ∧ pm_0 ≤ 80) (kz_0_45 : 0 ≤ wayMany_0 ∧ wayMany_0 ≤ 30) (kz_0_49 : (-1) ≤ onlyPiece_0 ∧ onlyPiece_0 ≤ 79) (kz_0_125 : 0 ≤ rowMany_0 ∧ rowMany_0 ≤ 100) (ex2 : gx = 0 + (1 * x6 + 0)) (ex3 : (-2) ≤ gx ∧ gx ≤ 26) : drawnNode_0 (x2) ≠ 0 := by
  first
    | omega
    | (have h := ‹STB _ _ _ _ _›.1.2.2; omega)
    | (have h := ‹STR _ _ _ _ _›.1; omega)
    | (have h := ‹STR _ _ _ _ _›.1
       have w := ‹STR _ _ _ _ _›.2.1 x1 (by omega) (by omega)
       omega)
    | (have h := bc_len ‹BC1 _ _ _ _ _ _ _›
       have h2 := ‹STR _ _ _ _ _›.1
       omega)
    | (have h := (sb_way ‹SB1 _ _ _ _ _ _ _ _ _ _ _ _› (by omega)).1
       have h2 := ‹STR _ _ _ _ _›.1
       omega)
    | (have h := ‹WYM _ _ _ _›.1
       have h2 := ‹STR _ _ _ _ _›.1
       omega)
def o_Mo_stOrder_31 : or_T := (181, 15, [(0, (2, 0, 0, [165])), (1, (0, 1, 30, [])), (2, (0, 0, 24, [])), (3, (0, 0, 24, [])), (5, (0, 0, 29, [])), (6, (0, -2, 26, [])), (7, (2, 0, 0, [191])), (8, (0, 0, 24, [])), (9, (2, 0, 0, [195])), (10, (0, 0, 24, [])), (11, (0, 0, 24, [])), (12, (0, 0, 24, [])), (14, (0, 1, 25, []))], [(6, [14, 3], [1]), (7, [11, 12], [3]), (10, [12, 9, 5], []), (9, [9, 0], [52]), (10, [11, 7, 5], []), (9, [7, 0], [46]), (7, [5, 1], [2]), (7, [8, 10], [1]), (10, [10, 9, 5], []), (10, [8, 7, 5], []), (7, [5, 1], [2]), (20, [0], [60, 2, 2, 75, 31, 32, 33, 34]), (20, [0], [60, 2, 3, 297, 31, 32, 33, 34, 35]), (20, [0], [60, 2, 3, 298, 31, 125, 33, 34, 117]), (20, [0], [50, 1, 0, 49, 1, 3, 2, 0, 49, 0, -1]), (20, [0, 6], [30, -26, -1, 1, 125, -1, 0, 0]), (20, [0], [60, 2, 2, 301, 31, 125, 42, 117]), (20, [0], [60, 1, 4, 303, 32, 33, 34, 42, 43]), (20, [0], [60, 1, 2, 122, 32, 35, 43]), (20, [0], [50, 2, 0, 125, 31, 0, 7, 4, 3, 2, 0, 125, 0, 1, 2, 0, 31]), (20, [0, 1, 2, 3], [60, 3, 6, 306, 31, 32, 49, 33, 34, 43, 44, 42, 52]), (20, [0], [60, 2, 2, 304, 31, 45, 42, 46]), (20, [2, 0], [30, -1, 1, 0, 0, -1, 1, 31]), (20, [3, 0], [30, -1, 1, 0, 0, -1, 1, 31]), (20, [0, 2], [50, 0, 1, 42, 7, 5, 3, 0, 42, 1, 1, 0, 0]), (20, [1, 0], [50, 1, 0, 1045, 1, 2, 1, 0, 2, 1, 45])], [], [(0, -2, 26, [])], [(20, [0], [60, 2, 2, 75, 31, 32, 33, 34]), (20, [0], [60, 2, 3, 297, 31, 32, 33, 34, 35]), (20, [0], [60, 2, 3, 298, 31, 125, 33, 34, 117]), (20, [0], [50, 1, 0, 49, 1, 3, 2, 0, 49, 0, -1]), (20, [0, 15], [30, -26, -1, 1, 125, -1, 0, 0]), (20, [0], [60, 2, 2, 301, 31, 125, 42, 117]), (20, [0], [60, 1, 4, 303, 32, 33, 34, 42, 43]), (20, [0], [60, 1, 2, 122, 32, 35, 43]), (20, [0], [50, 2, 0, 125, 31, 0, 7, 4, 3, 2, 0, 125, 0, 1, 2, 0, 31]), (20, [0, 1, 2, 14], [60, 3, 6, 306, 31, 32, 49, 33, 34, 43, 44, 42, 52]), (20, [2, 0], [30, -1, 1, 0, 0, -1, 1, 31]), (20, [0, 2], [50, 0, 1, 42, 7, 5, 3, 0, 42, 1, 1, 0, 0])], [(15, 6, 0, 0)], [(14, 3, 1, 1), (11, 12, 0, 4294967296), (5, 1, -4294967296, -1), (5, 1, -4294967296, 0)])
theorem oo_Mo_stOrder_31 {kA : Nat → ClassId} : or_ok PRD kA GG o_Mo_stOrder_31 := by
  refine or_mk fun A ta ws vs hD hth hl => ?_
  intro t0 r0 t1 k1 t2 k2 t3 k3 t5 k5 t6 k6 t7 r7 t8 k8 t9 r9 t10 k10 t11 k11 t12 k12 t14 k14 d0 d1 d2 d3 f0 f1 f2 f3 f4 f5 f6 f7 f8 f9 f10 f11 f12 f13 f14 f15 f16 f17 f18 f19 f20 f21 f22 f23 f24 f25
  replace f0 := shm_4 f0
  replace f1 := shm_2 f1
  replace f2 := shm_107 f2
  replace f3 := shm_993 f3
  replace f4 := shm_107 f4
  replace f5 := shm_737 f5
  replace f6 := shm_6 f6
  replace f7 := shm_40 f7
  replace f8 := shm_107 f8
  replace f9 := shm_107 f9
  replace f10 := shm_6 f10
  replace f11 := shm_575 f11
  replace f12 := shm_1749 f12
  replace f13 := shm_1001 f13
  replace f14 := shm_1675 f14
  replace f15 := shm_1750 f15
  replace f16 := shm_1755 f16
  replace f17 := shm_1757 f17
  replace f18 := shm_1455 f18
  replace f19 := shm_1752 f19
  replace f20 := shm_1761 f20
  replace f21 := shm_1764 f21
  replace f22 := shm_553 f22
  replace f23 := shm_553 f23
  replace f24 := shm_1762 f24
  replace f25 := shm_1765 f25
  have cr_0_33 := fdq_117 hD hth r0
  have cr_0_34 := fdq_118 hD hth r0
  have cr_0_35 := fdq_132 hD hth r0
  have cr_0_42 := fdq_136 hD hth r0
  have cr_0_43 := fdq_137 hD hth r0
  have cr_0_44 := fdq_138 hD hth r0
  have cr_0_46 := fdq_190 hD hth r0
  have cr_0_52 := fdq_236 hD hth r0
  have cr_0_117 := fdq_181 hD hth r0
  have ad_9 : v_ad (n_v vs 9) = w_ar ws (n_v vs 0) 52 := congrArg v_ad f3
  have ad_7 : v_ad (n_v vs 7) = w_ar ws (n_v vs 0) 46 := congrArg v_ad f5
  simp only [ad_9] at f2
  have h2 : v_iv (n_v vs 12) = w_ei ws (w_ar ws (n_v vs 0) 52) (v_iv (n_v vs 5)) := f2
  simp only [ad_7] at f4
  have h4 : v_iv (n_v vs 11) = w_ei ws (w_ar ws (n_v vs 0) 46) (v_iv (n_v vs 5)) := f4
  simp only [ad_9] at f8
  have h8 : v_iv (n_v vs 10) = w_ei ws (w_ar ws (n_v vs 0) 52) (v_iv (n_v vs 5)) := f8
  simp only [ad_7] at f9
  have h9 : v_iv (n_v vs 8) = w_ei ws (w_ar ws (n_v vs 0) 46) (v_iv (n_v vs 5)) := f9
  have hK_0_33 := elq_60 hD hth cr_0_33
  have hK_0_34 := elq_61 hD hth cr_0_34
  have hK_0_35 := elq_72 hD hth cr_0_35
  have hK_0_42 := elq_75 hD hth cr_0_42
  have hK_0_43 := elq_76 hD hth cr_0_43
  have hK_0_44 := elq_77 hD hth cr_0_44
  have hK_0_46 := elq_114 hD hth cr_0_46
  have hK_0_52 := elq_147 hD hth cr_0_52
  have hK_0_117 := elq_108 hD hth cr_0_117
  have kz_0_31 := fdq_145 hD hth r0
  have kz_0_32 := fdq_140 hD hth r0
  have kz_0_45 := fdq_191 hD hth r0
  have kz_0_49 := fdq_146 hD hth r0
  have kz_0_125 := fdq_182 hD hth r0
  obtain ⟨x, ex, hx⟩ := iv_ex (ta := ta) (lo := (-2)) (hi := 26) (z := 0 + (1 * v_iv (n_v vs 6) + 0)) (by omega) (by omega) (by omega) (by omega)
  have ex2 : v_iv (Value.int x) = 0 + (1 * v_iv (n_v vs 6) + 0) := ex
  have ex3 : (-2) ≤ v_iv (Value.int x) ∧ v_iv (Value.int x) ≤ 26 := tv_rng hx
  have e_0 : n_v (vs ++ [Value.int x]) 0 = n_v vs 0 := n_v_old (by rw [hl]; decide)
  have e_1 : n_v (vs ++ [Value.int x]) 1 = n_v vs 1 := n_v_old (by rw [hl]; decide)
  have e_2 : n_v (vs ++ [Value.int x]) 2 = n_v vs 2 := n_v_old (by rw [hl]; decide)
  have e_14 : n_v (vs ++ [Value.int x]) 14 = n_v vs 14 := n_v_old (by rw [hl]; decide)
  have e_15 : n_v (vs ++ [Value.int x]) 15 = Value.int x := n_v_new hl
  have nf0 : fc_1 PRD (20, [0], [60, 2, 2, 75, 31, 32, 33, 34]) ws (vs ++ [Value.int x]) := by
    refine ⟨nf_inA hl rfl, sgq_575 ?_⟩
    · show GOK (w_fi ws (n_v (vs ++ [Value.int x]) 0) 31) (w_fi ws (n_v (vs ++ [Value.int x]) 0) 32) (w_ei ws (w_ar ws (n_v (vs ++ [Value.int x]) 0) 33)) (w_ei ws (w_ar ws (n_v (vs ++ [Value.int x]) 0) 34))
      rw [e_0]
      exact vc_Mo_stOrder_31_0 (v_iv (n_v vs 1)) (v_iv (n_v vs 2)) (v_iv (n_v vs 3)) (v_iv (n_v vs 5)) (v_iv (n_v vs 6)) (v_iv (n_v vs 8)) (v_iv (n_v vs 10)) (v_iv (n_v vs 11)) (v_iv (n_v vs 12)) (v_iv (n_v vs 14)) (w_ei ws (w_ar ws (n_v vs 0) 52)) (w_ei ws (w_ar ws (n_v vs 0) 46)) (w_ei ws (w_ar ws (n_v vs 0) 33)) (w_ei ws (w_ar ws (n_v vs 0) 34)) (w_fi ws (n_v vs 0) 31) (w_fi ws (n_v vs 0) 32) (w_ei ws (w_ar ws (n_v vs 0) 35)) (w_ei ws (w_ar ws (n_v vs 0) 117)) (w_fi ws (n_v vs 0) 125) (w_fi ws (n_v vs 0) 49) (w_ei ws (w_ar ws (n_v vs 0) 42)) (w_ei ws (w_ar ws (n_v vs 0) 43)) (w_ei ws (w_ar ws (n_v vs 0) 44)) (w_fi ws (n_v vs 0) 45) (v_iv (Value.int x)) k1 k2 k3 k5 k6 k8 k10 k11 k12 k14 d0 d1 d2 d3 f0 f1 h2 h4 f6 f7 h8 h9 f10 f11 f12 f13 f14 f15 f16 f17 f18 f19 f20 f21 f22 f23 f24 f25 hK_0_33 hK_0_34 hK_0_35 hK_0_42 hK_0_43 hK_0_44 hK_0_46 hK_0_52 hK_0_117 kz_0_31 kz_0_32 kz_0_45 kz_0_49 kz_0_125 ex2 ex3
  have nf1 : fc_1 PRD (20, [0], [60, 2, 3, 297, 31, 32, 33, 34, 35]) ws (vs ++ [Value.int x]) := by
    refine ⟨nf_inA hl rfl, sgq_1749 ?_⟩
    · show STB (w_fi ws (n_v (vs ++ [Value.int x]) 0) 31) (w_fi ws (n_v (vs ++ [Value.int x]) 0) 32) (w_ei ws (w_ar ws (n_v (vs ++ [Value.int x]) 0) 33)) (w_ei ws (w_ar ws (n_v (vs ++ [Value.int x]) 0) 34)) (w_ei ws (w_ar ws (n_v (vs ++ [Value.int x]) 0) 35))
      rw [e_0]
      exact vc_Mo_stOrder_31_1 (v_iv (n_v vs 1)) (v_iv (n_v vs 2)) (v_iv (n_v vs 3)) (v_iv (n_v vs 5)) (v_iv (n_v vs 6)) (v_iv (n_v vs 8)) (v_iv (n_v vs 10)) (v_iv (n_v vs 11)) (v_iv (n_v vs 12)) (v_iv (n_v vs 14)) (w_ei ws (w_ar ws (n_v vs 0) 52)) (w_ei ws (w_ar ws (n_v vs 0) 46)) (w_ei ws (w_ar ws (n_v vs 0) 33)) (w_ei ws (w_ar ws (n_v vs 0) 34)) (w_fi ws (n_v vs 0) 31) (w_fi ws (n_v vs 0) 32) (w_ei ws (w_ar ws (n_v vs 0) 35)) (w_ei ws (w_ar ws (n_v vs 0) 117)) (w_fi ws (n_v vs 0) 125) (w_fi ws (n_v vs 0) 49) (w_ei ws (w_ar ws (n_v vs 0) 42)) (w_ei ws (w_ar ws (n_v vs 0) 43)) (w_ei ws (w_ar ws (n_v vs 0) 44)) (w_fi ws (n_v vs 0) 45) (v_iv (Value.int x)) k1 k2 k3 k5 k6 k8 k10 k11 k12 k14 d0 d1 d2 d3 f0 f1 h2 h4 f6 f7 h8 h9 f10 f11 f12 f13 f14 f15 f16 f17 f18 f19 f20 f21 f22 f23 f24 f25 hK_0_33 hK_0_34 hK_0_35 hK_0_42 hK_0_43 hK_0_44 hK_0_46 hK_0_52 hK_0_117 kz_0_31 kz_0_32 kz_0_45 kz_0_49 kz_0_125 ex2 ex3
  have nf2 : fc_1 PRD (20, [0], [60, 2, 3, 298, 31, 125, 33, 34, 117]) ws (vs ++ [Value.int x]) := by
    refine ⟨nf_inA hl rfl, sgq_1001 ?_⟩
    · show STR (w_fi ws (n_v (vs ++ [Value.int x]) 0) 31) (w_fi ws (n_v (vs ++ [Value.int x]) 0) 125) (w_ei ws (w_ar ws (n_v (vs ++ [Value.int x]) 0) 33)) (w_ei ws (w_ar ws (n_v (vs ++ [Value.int x]) 0) 34)) (w_ei ws (w_ar ws (n_v (vs ++ [Value.int x]) 0) 117))
      rw [e_0]
      exact vc_Mo_stOrder_31_2 (v_iv (n_v vs 1)) (v_iv (n_v vs 2)) (v_iv (n_v vs 3)) (v_iv (n_v vs 5)) (v_iv (n_v vs 6)) (v_iv (n_v vs 8)) (v_iv (n_v vs 10)) (v_iv (n_v vs 11)) (v_iv (n_v vs 12)) (v_iv (n_v vs 14)) (w_ei ws (w_ar ws (n_v vs 0) 52)) (w_ei ws (w_ar ws (n_v vs 0) 46)) (w_ei ws (w_ar ws (n_v vs 0) 33)) (w_ei ws (w_ar ws (n_v vs 0) 34)) (w_fi ws (n_v vs 0) 31) (w_fi ws (n_v vs 0) 32) (w_ei ws (w_ar ws (n_v vs 0) 35)) (w_ei ws (w_ar ws (n_v vs 0) 117)) (w_fi ws (n_v vs 0) 125) (w_fi ws (n_v vs 0) 49) (w_ei ws (w_ar ws (n_v vs 0) 42)) (w_ei ws (w_ar ws (n_v vs 0) 43)) (w_ei ws (w_ar ws (n_v vs 0) 44)) (w_fi ws (n_v vs 0) 45) (v_iv (Value.int x)) k1 k2 k3 k5 k6 k8 k10 k11 k12 k14 d0 d1 d2 d3 f0 f1 h2 h4 f6 f7 h8 h9 f10 f11 f12 f13 f14 f15 f16 f17 f18 f19 f20 f21 f22 f23 f24 f25 hK_0_33 hK_0_34 hK_0_35 hK_0_42 hK_0_43 hK_0_44 hK_0_46 hK_0_52 hK_0_117 kz_0_31 kz_0_32 kz_0_45 kz_0_49 kz_0_125 ex2 ex3
  have nf3 : fc_1 PRD (20, [0], [50, 1, 0, 49, 1, 3, 2, 0, 49, 0, -1]) ws (vs ++ [Value.int x]) := by
    refine ⟨nf_inA hl rfl, sgq_1675 ?_⟩
    · show w_fi ws (n_v (vs ++ [Value.int x]) 0) 49 = (-1)
      rw [e_0]
      exact vc_Mo_stOrder_31_3 (v_iv (n_v vs 1)) (v_iv (n_v vs 2)) (v_iv (n_v vs 3)) (v_iv (n_v vs 5)) (v_iv (n_v vs 6)) (v_iv (n_v vs 8)) (v_iv (n_v vs 10)) (v_iv (n_v vs 11)) (v_iv (n_v vs 12)) (v_iv (n_v vs 14)) (w_ei ws (w_ar ws (n_v vs 0) 52)) (w_ei ws (w_ar ws (n_v vs 0) 46)) (w_ei ws (w_ar ws (n_v vs 0) 33)) (w_ei ws (w_ar ws (n_v vs 0) 34)) (w_fi ws (n_v vs 0) 31) (w_fi ws (n_v vs 0) 32) (w_ei ws (w_ar ws (n_v vs 0) 35)) (w_ei ws (w_ar ws (n_v vs 0) 117)) (w_fi ws (n_v vs 0) 125) (w_fi ws (n_v vs 0) 49) (w_ei ws (w_ar ws (n_v vs 0) 42)) (w_ei ws (w_ar ws (n_v vs 0) 43)) (w_ei ws (w_ar ws (n_v vs 0) 44)) (w_fi ws (n_v vs 0) 45) (v_iv (Value.int x)) k1 k2 k3 k5 k6 k8 k10 k11 k12 k14 d0 d1 d2 d3 f0 f1 h2 h4 f6 f7 h8 h9 f10 f11 f12 f13 f14 f15 f16 f17 f18 f19 f20 f21 f22 f23 f24 f25 hK_0_33 hK_0_34 hK_0_35 hK_0_42 hK_0_43 hK_0_44 hK_0_46 hK_0_52 hK_0_117 kz_0_31 kz_0_32 kz_0_45 kz_0_49 kz_0_125 ex2 ex3
  have nf4 : fc_1 PRD (20, [0, 15], [30, -26, -1, 1, 125, -1, 0, 0]) ws (vs ++ [Value.int x]) := by
    refine ⟨nf_inA hl rfl, sgq_1750 ?_⟩
    · show (-1) * w_fi ws (n_v (vs ++ [Value.int x]) 0) 125 + ((-1) * v_iv (n_v (vs ++ [Value.int x]) 15) + 0) ≤ (-26)
      simp only [e_0, e_15]
      exact vc_Mo_stOrder_31_4 (v_iv (n_v vs 1)) (v_iv (n_v vs 2)) (v_iv (n_v vs 3)) (v_iv (n_v vs 5)) (v_iv (n_v vs 6)) (v_iv (n_v vs 8)) (v_iv (n_v vs 10)) (v_iv (n_v vs 11)) (v_iv (n_v vs 12)) (v_iv (n_v vs 14)) (w_ei ws (w_ar ws (n_v vs 0) 52)) (w_ei ws (w_ar ws (n_v vs 0) 46)) (w_ei ws (w_ar ws (n_v vs 0) 33)) (w_ei ws (w_ar ws (n_v vs 0) 34)) (w_fi ws (n_v vs 0) 31) (w_fi ws (n_v vs 0) 32) (w_ei ws (w_ar ws (n_v vs 0) 35)) (w_ei ws (w_ar ws (n_v vs 0) 117)) (w_fi ws (n_v vs 0) 125) (w_fi ws (n_v vs 0) 49) (w_ei ws (w_ar ws (n_v vs 0) 42)) (w_ei ws (w_ar ws (n_v vs 0) 43)) (w_ei ws (w_ar ws (n_v vs 0) 44)) (w_fi ws (n_v vs 0) 45) (v_iv (Value.int x)) k1 k2 k3 k5 k6 k8 k10 k11 k12 k14 d0 d1 d2 d3 f0 f1 h2 h4 f6 f7 h8 h9 f10 f11 f12 f13 f14 f15 f16 f17 f18 f19 f20 f21 f22 f23 f24 f25 hK_0_33 hK_0_34 hK_0_35 hK_0_42 hK_0_43 hK_0_44 hK_0_46 hK_0_52 hK_0_117 kz_0_31 kz_0_32 kz_0_45 kz_0_49 kz_0_125 ex2 ex3
  have nf5 : fc_1 PRD (20, [0], [60, 2, 2, 301, 31, 125, 42, 117]) ws (vs ++ [Value.int x]) := by
    refine ⟨nf_inA hl rfl, sgq_1755 ?_⟩
    · show DRR (w_fi ws (n_v (vs ++ [Value.int x]) 0) 31) (w_fi ws (n_v (vs ++ [Value.int x]) 0) 125) (w_ei ws (w_ar ws (n_v (vs ++ [Value.int x]) 0) 42)) (w_ei ws (w_ar ws (n_v (vs ++ [Value.int x]) 0) 117))
      rw [e_0]
      exact vc_Mo_stOrder_31_5 (v_iv (n_v vs 1)) (v_iv (n_v vs 2)) (v_iv (n_v vs 3)) (v_iv (n_v vs 5)) (v_iv (n_v vs 6)) (v_iv (n_v vs 8)) (v_iv (n_v vs 10)) (v_iv (n_v vs 11)) (v_iv (n_v vs 12)) (v_iv (n_v vs 14)) (w_ei ws (w_ar ws (n_v vs 0) 52)) (w_ei ws (w_ar ws (n_v vs 0) 46)) (w_ei ws (w_ar ws (n_v vs 0) 33)) (w_ei ws (w_ar ws (n_v vs 0) 34)) (w_fi ws (n_v vs 0) 31) (w_fi ws (n_v vs 0) 32) (w_ei ws (w_ar ws (n_v vs 0) 35)) (w_ei ws (w_ar ws (n_v vs 0) 117)) (w_fi ws (n_v vs 0) 125) (w_fi ws (n_v vs 0) 49) (w_ei ws (w_ar ws (n_v vs 0) 42)) (w_ei ws (w_ar ws (n_v vs 0) 43)) (w_ei ws (w_ar ws (n_v vs 0) 44)) (w_fi ws (n_v vs 0) 45) (v_iv (Value.int x)) k1 k2 k3 k5 k6 k8 k10 k11 k12 k14 d0 d1 d2 d3 f0 f1 h2 h4 f6 f7 h8 h9 f10 f11 f12 f13 f14 f15 f16 f17 f18 f19 f20 f21 f22 f23 f24 f25 hK_0_33 hK_0_34 hK_0_35 hK_0_42 hK_0_43 hK_0_44 hK_0_46 hK_0_52 hK_0_117 kz_0_31 kz_0_32 kz_0_45 kz_0_49 kz_0_125 ex2 ex3
  have nf6 : fc_1 PRD (20, [0], [60, 1, 4, 303, 32, 33, 34, 42, 43]) ws (vs ++ [Value.int x]) := by
    refine ⟨nf_inA hl rfl, sgq_1757 ?_⟩
    · show DEM (w_fi ws (n_v (vs ++ [Value.int x]) 0) 32) (w_ei ws (w_ar ws (n_v (vs ++ [Value.int x]) 0) 33)) (w_ei ws (w_ar ws (n_v (vs ++ [Value.int x]) 0) 34)) (w_ei ws (w_ar ws (n_v (vs ++ [Value.int x]) 0) 42)) (w_ei ws (w_ar ws (n_v (vs ++ [Value.int x]) 0) 43))
      rw [e_0]
      exact vc_Mo_stOrder_31_6 (v_iv (n_v vs 1)) (v_iv (n_v vs 2)) (v_iv (n_v vs 3)) (v_iv (n_v vs 5)) (v_iv (n_v vs 6)) (v_iv (n_v vs 8)) (v_iv (n_v vs 10)) (v_iv (n_v vs 11)) (v_iv (n_v vs 12)) (v_iv (n_v vs 14)) (w_ei ws (w_ar ws (n_v vs 0) 52)) (w_ei ws (w_ar ws (n_v vs 0) 46)) (w_ei ws (w_ar ws (n_v vs 0) 33)) (w_ei ws (w_ar ws (n_v vs 0) 34)) (w_fi ws (n_v vs 0) 31) (w_fi ws (n_v vs 0) 32) (w_ei ws (w_ar ws (n_v vs 0) 35)) (w_ei ws (w_ar ws (n_v vs 0) 117)) (w_fi ws (n_v vs 0) 125) (w_fi ws (n_v vs 0) 49) (w_ei ws (w_ar ws (n_v vs 0) 42)) (w_ei ws (w_ar ws (n_v vs 0) 43)) (w_ei ws (w_ar ws (n_v vs 0) 44)) (w_fi ws (n_v vs 0) 45) (v_iv (Value.int x)) k1 k2 k3 k5 k6 k8 k10 k11 k12 k14 d0 d1 d2 d3 f0 f1 h2 h4 f6 f7 h8 h9 f10 f11 f12 f13 f14 f15 f16 f17 f18 f19 f20 f21 f22 f23 f24 f25 hK_0_33 hK_0_34 hK_0_35 hK_0_42 hK_0_43 hK_0_44 hK_0_46 hK_0_52 hK_0_117 kz_0_31 kz_0_32 kz_0_45 kz_0_49 kz_0_125 ex2 ex3
  have nf7 : fc_1 PRD (20, [0], [60, 1, 2, 122, 32, 35, 43]) ws (vs ++ [Value.int x]) := by
    refine ⟨nf_inA hl rfl, sgq_1455 ?_⟩
    · show UA (w_fi ws (n_v (vs ++ [Value.int x]) 0) 32) (w_ei ws (w_ar ws (n_v (vs ++ [Value.int x]) 0) 35)) (w_ei ws (w_ar ws (n_v (vs ++ [Value.int x]) 0) 43))
      rw [e_0]
      exact vc_Mo_stOrder_31_7 (v_iv (n_v vs 1)) (v_iv (n_v vs 2)) (v_iv (n_v vs 3)) (v_iv (n_v vs 5)) (v_iv (n_v vs 6)) (v_iv (n_v vs 8)) (v_iv (n_v vs 10)) (v_iv (n_v vs 11)) (v_iv (n_v vs 12)) (v_iv (n_v vs 14)) (w_ei ws (w_ar ws (n_v vs 0) 52)) (w_ei ws (w_ar ws (n_v vs 0) 46)) (w_ei ws (w_ar ws (n_v vs 0) 33)) (w_ei ws (w_ar ws (n_v vs 0) 34)) (w_fi ws (n_v vs 0) 31) (w_fi ws (n_v vs 0) 32) (w_ei ws (w_ar ws (n_v vs 0) 35)) (w_ei ws (w_ar ws (n_v vs 0) 117)) (w_fi ws (n_v vs 0) 125) (w_fi ws (n_v vs 0) 49) (w_ei ws (w_ar ws (n_v vs 0) 42)) (w_ei ws (w_ar ws (n_v vs 0) 43)) (w_ei ws (w_ar ws (n_v vs 0) 44)) (w_fi ws (n_v vs 0) 45) (v_iv (Value.int x)) k1 k2 k3 k5 k6 k8 k10 k11 k12 k14 d0 d1 d2 d3 f0 f1 h2 h4 f6 f7 h8 h9 f10 f11 f12 f13 f14 f15 f16 f17 f18 f19 f20 f21 f22 f23 f24 f25 hK_0_33 hK_0_34 hK_0_35 hK_0_42 hK_0_43 hK_0_44 hK_0_46 hK_0_52 hK_0_117 kz_0_31 kz_0_32 kz_0_45 kz_0_49 kz_0_125 ex2 ex3
  have nf8 : fc_1 PRD (20, [0], [50, 2, 0, 125, 31, 0, 7, 4, 3, 2, 0, 125, 0, 1, 2, 0, 31]) ws (vs ++ [Value.int x]) := by
    refine ⟨nf_inA hl rfl, sgq_1752 ?_⟩
    · show (w_fi ws (n_v (vs ++ [Value.int x]) 0) 125 + 1) ≤ w_fi ws (n_v (vs ++ [Value.int x]) 0) 31
      rw [e_0]
      exact vc_Mo_stOrder_31_8 (v_iv (n_v vs 1)) (v_iv (n_v vs 2)) (v_iv (n_v vs 3)) (v_iv (n_v vs 5)) (v_iv (n_v vs 6)) (v_iv (n_v vs 8)) (v_iv (n_v vs 10)) (v_iv (n_v vs 11)) (v_iv (n_v vs 12)) (v_iv (n_v vs 14)) (w_ei ws (w_ar ws (n_v vs 0) 52)) (w_ei ws (w_ar ws (n_v vs 0) 46)) (w_ei ws (w_ar ws (n_v vs 0) 33)) (w_ei ws (w_ar ws (n_v vs 0) 34)) (w_fi ws (n_v vs 0) 31) (w_fi ws (n_v vs 0) 32) (w_ei ws (w_ar ws (n_v vs 0) 35)) (w_ei ws (w_ar ws (n_v vs 0) 117)) (w_fi ws (n_v vs 0) 125) (w_fi ws (n_v vs 0) 49) (w_ei ws (w_ar ws (n_v vs 0) 42)) (w_ei ws (w_ar ws (n_v vs 0) 43)) (w_ei ws (w_ar ws (n_v vs 0) 44)) (w_fi ws (n_v vs 0) 45) (v_iv (Value.int x)) k1 k2 k3 k5 k6 k8 k10 k11 k12 k14 d0 d1 d2 d3 f0 f1 h2 h4 f6 f7 h8 h9 f10 f11 f12 f13 f14 f15 f16 f17 f18 f19 f20 f21 f22 f23 f24 f25 hK_0_33 hK_0_34 hK_0_35 hK_0_42 hK_0_43 hK_0_44 hK_0_46 hK_0_52 hK_0_117 kz_0_31 kz_0_32 kz_0_45 kz_0_49 kz_0_125 ex2 ex3
  have nf9 : fc_1 PRD (20, [0, 1, 2, 14], [60, 3, 6, 306, 31, 32, 49, 33, 34, 43, 44, 42, 52]) ws (vs ++ [Value.int x]) := by
    refine ⟨nf_inA hl rfl, sgq_1761 ?_⟩
    · show SB1 (w_fi ws (n_v (vs ++ [Value.int x]) 0) 31) (w_fi ws (n_v (vs ++ [Value.int x]) 0) 32) (w_fi ws (n_v (vs ++ [Value.int x]) 0) 49) (w_ei ws (w_ar ws (n_v (vs ++ [Value.int x]) 0) 33)) (w_ei ws (w_ar ws (n_v (vs ++ [Value.int x]) 0) 34)) (w_ei ws (w_ar ws (n_v (vs ++ [Value.int x]) 0) 43)) (w_ei ws (w_ar ws (n_v (vs ++ [Value.int x]) 0) 44)) (w_ei ws (w_ar ws (n_v (vs ++ [Value.int x]) 0) 42)) (w_ei ws (w_ar ws (n_v (vs ++ [Value.int x]) 0) 52)) (v_iv (n_v (vs ++ [Value.int x]) 1)) (v_iv (n_v (vs ++ [Value.int x]) 2)) (v_iv (n_v (vs ++ [Value.int x]) 14))
      simp only [e_0, e_1, e_2, e_14]
      exact vc_Mo_stOrder_31_9 (v_iv (n_v vs 1)) (v_iv (n_v vs 2)) (v_iv (n_v vs 3)) (v_iv (n_v vs 5)) (v_iv (n_v vs 6)) (v_iv (n_v vs 8)) (v_iv (n_v vs 10)) (v_iv (n_v vs 11)) (v_iv (n_v vs 12)) (v_iv (n_v vs 14)) (w_ei ws (w_ar ws (n_v vs 0) 52)) (w_ei ws (w_ar ws (n_v vs 0) 46)) (w_ei ws (w_ar ws (n_v vs 0) 33)) (w_ei ws (w_ar ws (n_v vs 0) 34)) (w_fi ws (n_v vs 0) 31) (w_fi ws (n_v vs 0) 32) (w_ei ws (w_ar ws (n_v vs 0) 35)) (w_ei ws (w_ar ws (n_v vs 0) 117)) (w_fi ws (n_v vs 0) 125) (w_fi ws (n_v vs 0) 49) (w_ei ws (w_ar ws (n_v vs 0) 42)) (w_ei ws (w_ar ws (n_v vs 0) 43)) (w_ei ws (w_ar ws (n_v vs 0) 44)) (w_fi ws (n_v vs 0) 45) (v_iv (Value.int x)) k1 k2 k3 k5 k6 k8 k10 k11 k12 k14 d0 d1 d2 d3 f0 f1 h2 h4 f6 f7 h8 h9 f10 f11 f12 f13 f14 f15 f16 f17 f18 f19 f20 f21 f22 f23 f24 f25 hK_0_33 hK_0_34 hK_0_35 hK_0_42 hK_0_43 hK_0_44 hK_0_46 hK_0_52 hK_0_117 kz_0_31 kz_0_32 kz_0_45 kz_0_49 kz_0_125 ex2 ex3
  have nf10 : fc_1 PRD (20, [2, 0], [30, -1, 1, 0, 0, -1, 1, 31]) ws (vs ++ [Value.int x]) := by
    refine ⟨nf_inA hl rfl, sgq_553 ?_⟩
    · show 1 * v_iv (n_v (vs ++ [Value.int x]) 2) + ((-1) * w_fi ws (n_v (vs ++ [Value.int x]) 0) 31 + 0) ≤ (-1)
      simp only [e_0, e_2]
      exact vc_Mo_stOrder_31_10 (v_iv (n_v vs 1)) (v_iv (n_v vs 2)) (v_iv (n_v vs 3)) (v_iv (n_v vs 5)) (v_iv (n_v vs 6)) (v_iv (n_v vs 8)) (v_iv (n_v vs 10)) (v_iv (n_v vs 11)) (v_iv (n_v vs 12)) (v_iv (n_v vs 14)) (w_ei ws (w_ar ws (n_v vs 0) 52)) (w_ei ws (w_ar ws (n_v vs 0) 46)) (w_ei ws (w_ar ws (n_v vs 0) 33)) (w_ei ws (w_ar ws (n_v vs 0) 34)) (w_fi ws (n_v vs 0) 31) (w_fi ws (n_v vs 0) 32) (w_ei ws (w_ar ws (n_v vs 0) 35)) (w_ei ws (w_ar ws (n_v vs 0) 117)) (w_fi ws (n_v vs 0) 125) (w_fi ws (n_v vs 0) 49) (w_ei ws (w_ar ws (n_v vs 0) 42)) (w_ei ws (w_ar ws (n_v vs 0) 43)) (w_ei ws (w_ar ws (n_v vs 0) 44)) (w_fi ws (n_v vs 0) 45) (v_iv (Value.int x)) k1 k2 k3 k5 k6 k8 k10 k11 k12 k14 d0 d1 d2 d3 f0 f1 h2 h4 f6 f7 h8 h9 f10 f11 f12 f13 f14 f15 f16 f17 f18 f19 f20 f21 f22 f23 f24 f25 hK_0_33 hK_0_34 hK_0_35 hK_0_42 hK_0_43 hK_0_44 hK_0_46 hK_0_52 hK_0_117 kz_0_31 kz_0_32 kz_0_45 kz_0_49 kz_0_125 ex2 ex3
  have nf11 : fc_1 PRD (20, [0, 2], [50, 0, 1, 42, 7, 5, 3, 0, 42, 1, 1, 0, 0]) ws (vs ++ [Value.int x]) := by
    refine ⟨nf_inA hl rfl, sgq_1762 ?_⟩
    · show w_ei ws (w_ar ws (n_v (vs ++ [Value.int x]) 0) 42) (v_iv (n_v (vs ++ [Value.int x]) 2)) ≠ 0
      simp only [e_0, e_2]
      exact vc_Mo_stOrder_31_11 (v_iv (n_v vs 1)) (v_iv (n_v vs 2)) (v_iv (n_v vs 3)) (v_iv (n_v vs 5)) (v_iv (n_v vs 6)) (v_iv (n_v vs 8)) (v_iv (n_v vs 10)) (v_iv (n_v vs 11)) (v_iv (n_v vs 12)) (v_iv (n_v vs 14)) (w_ei ws (w_ar ws (n_v vs 0) 52)) (w_ei ws (w_ar ws (n_v vs 0) 46)) (w_ei ws (w_ar ws (n_v vs 0) 33)) (w_ei ws (w_ar ws (n_v vs 0) 34)) (w_fi ws (n_v vs 0) 31) (w_fi ws (n_v vs 0) 32) (w_ei ws (w_ar ws (n_v vs 0) 35)) (w_ei ws (w_ar ws (n_v vs 0) 117)) (w_fi ws (n_v vs 0) 125) (w_fi ws (n_v vs 0) 49) (w_ei ws (w_ar ws (n_v vs 0) 42)) (w_ei ws (w_ar ws (n_v vs 0) 43)) (w_ei ws (w_ar ws (n_v vs 0) 44)) (w_fi ws (n_v vs 0) 45) (v_iv (Value.int x)) k1 k2 k3 k5 k6 k8 k10 k11 k12 k14 d0 d1 d2 d3 f0 f1 h2 h4 f6 f7 h8 h9 f10 f11 f12 f13 f14 f15 f16 f17 f18 f19 f20 f21 f22 f23 f24 f25 hK_0_33 hK_0_34 hK_0_35 hK_0_42 hK_0_43 hK_0_44 hK_0_46 hK_0_52 hK_0_117 kz_0_31 kz_0_32 kz_0_45 kz_0_49 kz_0_125 ex2 ex3
  obtain ⟨x0, e0, _, _⟩ := tv_int t6 rfl
  have e1 : v_iv (n_v vs 6) = x0.toInt := by rw [e0]; rfl
  have ho : sy_ofs (vs ++ [Value.int x]) (15, 6, 0, 0) := by
    refine ⟨x, x0, by rw [List.getElem?_append_right (by rw [hl]; decide), hl]; rfl, ?_, ?_, ?_⟩
    · rw [List.getElem?_append_left (by rw [hl]; decide)]; exact n_v_some (by rw [hl]; decide) e0
    · show x0.toInt + 0 ≤ x.toInt; omega
    · show x.toInt ≤ x0.toInt + 0; omega
  exact ⟨(fun _ h => (by cases h)), [Value.int x], ag_one hx, List.forall_mem_cons.mpr ⟨⟨show (20 : Nat) < 100 from by decide, nf0⟩, List.forall_mem_cons.mpr ⟨⟨show (20 : Nat) < 100 from by decide, nf1⟩, List.forall_mem_cons.mpr ⟨⟨show (20 : Nat) < 100 from by decide, nf2⟩, List.forall_mem_cons.mpr ⟨⟨show (20 : Nat) < 100 from by decide, nf3⟩, List.forall_mem_cons.mpr ⟨⟨show (20 : Nat) < 100 from by decide, nf4⟩, List.forall_mem_cons.mpr ⟨⟨show (20 : Nat) < 100 from by decide, nf5⟩, List.forall_mem_cons.mpr ⟨⟨show (20 : Nat) < 100 from by decide, nf6⟩, List.forall_mem_cons.mpr ⟨⟨show (20 : Nat) < 100 from by decide, nf7⟩, List.forall_mem_cons.mpr ⟨⟨show (20 : Nat) < 100 from by decide, nf8⟩, List.forall_mem_cons.mpr ⟨⟨show (20 : Nat) < 100 from by decide, nf9⟩, List.forall_mem_cons.mpr ⟨⟨show (20 : Nat) < 100 from by decide, nf10⟩, List.forall_mem_cons.mpr ⟨⟨show (20 : Nat) < 100 from by decide, nf11⟩, (fun _ h => (by cases h))⟩⟩⟩⟩⟩⟩⟩⟩⟩⟩⟩⟩, List.forall_mem_cons.mpr ⟨ho, (fun _ h => (by cases h))⟩⟩

set_option maxHeartbeats 4000000 in
theorem vc_Mo_stOrder_32_0 (x1 : Int) (x2 : Int) (x3 : Int) (x5 : Int) (x6 : Int) (x8 : Int) (x10 : Int) (x11 : Int) (x12 : Int) (x14 : Int) (x15 : Int) (wayMany_0 : Int) (bestWay_0 : Int → Int) (way_0 : Int → Int) (pt_0 : Int → Int) (ph_0 : Int → Int) (pn_0 : Int) (pm_0 : Int) (alive_0 : Int → Int) (row_0 : Int → Int) (rowMany_0 : Int) (onlyPiece_0 : Int) (drawnNode_0 : Int → Int) (drawnEdge_0 : Int → Int) (pieceOf_0 : Int → Int) (gx : Int) (k1 : 1 ≤ x1 ∧ x1 ≤ 30) (k2 : 0 ≤ x2 ∧ x2 ≤ 24) (k3 : 0 ≤ x3 ∧ x3 ≤ 24) (k5 : 0 ≤ x5 ∧ x5 ≤ 29) (k6 : (-2) ≤ x6 ∧ x6 ≤ 26) (k8 : 0 ≤ x8 ∧ x8 ≤ 24) (k10 : 0 ≤ x10 ∧ x10 ≤ 24) (k11 : 0 ≤ x11 ∧ x11 ≤ 23) (k12 : 1 ≤ x12 ∧ x12 ≤ 24) (k14 : 0 ≤ x14 ∧ x14 ≤ 30) (k15 : 0 ≤ x15 ∧ x15 ≤ 0) (d0 : x12 + (-4294967296) ≤ x11 ∧ x11 ≤ x12 + (-1)) (d1 : x1 + (-4294967296) ≤ x5 ∧ x5 ≤ x1 + (-1)) (d2 : x1 + (-4294967296) ≤ x5 ∧ x5 ≤ x1 + 0) (g0 : x14 = wayMany_0) (f1 : x11 < x12) (h2 : x12 = bestWay_0 (x5)) (h4 : x11 = way_0 (x5)) (f6 : x5 < x1) (f7 : x8 ≠ x10) (h8 : x10 = bestWay_0 (x5)) (h9 : x8 = way_0 (x5)) (f10 : x5 < x1) (f11 : GOK (pn_0) (pm_0) (pt_0) (ph_0)) (f12 : STB (pn_0) (pm_0) (pt_0) (ph_0) (alive_0)) (f13 : STR (pn_0) (rowMany_0) (pt_0) (ph_0) (row_0)) (f14 : onlyPiece_0 = (-1)) (f15 : (-1) * rowMany_0 + ((-1) * x6 + 0) ≤ (-26)) (f16 : DRR (pn_0) (rowMany_0) (drawnNode_0) (row_0)) (f17 : DEM (pm_0) (pt_0) (ph_0) (drawnNode_0) (drawnEdge_0)) (f18 : UA (pm_0) (alive_0) (drawnEdge_0)) (f19 : (rowMany_0 + 1) ≤ pn_0) (f20 : SB1 (pn_0) (pm_0) (onlyPiece_0) (pt_0) (ph_0) (drawnEdge_0) (pieceOf_0) (drawnNode_0) (bestWay_0) (x1) (x2) (x3)) (f21 : WYM (pn_0) (wayMany_0) (drawnNode_0) (way_0)) (f22 : 1 * x2 + ((-1) * pn_0 + 0) ≤ (-1)) (f23 : 1 * x3 + ((-1) * pn_0 + 0) ≤ (-1)) (f24 : drawnNode_0 (x2) ≠ 0) (f25 : x1 = wayMany_0) (hK_0_33 : ∀ j : Int, 0 ≤ j → j < 80 → 0 ≤ pt_0 j ∧ pt_0 j ≤ 24) (hK_0_34 : ∀ j : Int, 0 ≤ j → j < 80 → 0 ≤ ph_0 j ∧ ph_0 j ≤ 24) (hK_0_35 : ∀ j : Int, 0 ≤ j → j < 80 → 0 ≤ alive_0 j ∧ alive_0 j ≤ 1) (hK_0_42 : ∀ j : Int, 0 ≤ j → j < 26 → 0 ≤ drawnNode_0 j ∧ drawnNode_0 j ≤ 1) (hK_0_43 : ∀ j : Int, 0 ≤ j → j < 80 → 0 ≤ drawnEdge_0 j ∧ drawnEdge_0 j ≤ 1) (hK_0_44 : ∀ j : Int, 0 ≤ j → j < 80 → (-1) ≤ pieceOf_0 j ∧ pieceOf_0 j ≤ 79) (hK_0_46 : ∀ j : Int, 0 ≤ j → j < 30 → 0 ≤ way_0 j ∧ way_0 j ≤ 24) (hK_0_52 : ∀ j : Int, 0 ≤ j → j < 30 → 0 ≤ bestWay_0 j ∧ bestWay_0 j ≤ 24) (hK_0_117 : ∀ j : Int, 0 ≤ j → j < 100 → 0 ≤ row_0 j ∧ row_0 j ≤ 75) (kz_0_31 : 0 ≤ pn_0 ∧ pn_0 ≤ 25) (kz_0_32 : 0 ≤ pm_0 ∧ pm_0 ≤ 80) (kz_0_45 : 0 ≤ wayMany_0 ∧ wayMany_0 ≤ 30) (kz_0_49 : (-1) ≤ onlyPiece_0 ∧ onlyPiece_0 ≤ 79) (kz_0_125 : 0 ≤ rowMany_0 ∧ rowMany_0 ≤ 100) (ex2 : gx = 0 + (1 * x6 + 0)) (ex3 : (-2) ≤ gx ∧ gx ≤ 26) : GOK (pn_0) (pm_0) (pt_0) (ph_0) := by
  first
    | assumption
    | exact ‹STB _ _ _ _ _›.1.1
set_option maxHeartbeats 4000000 in
theorem vc_Mo_stOrder_32_1 (x1 : Int) (x2 : Int) (x3 : Int) (x5 : Int) (x6 : Int) (x8 : Int) (x10 : Int) (x11 : Int) (x12 : Int) (x14 : Int) (x15 : Int) (wayMany_0 : Int) (bestWay_0 : Int → Int) (way_0 : Int → Int) (pt_0 : Int → Int) (ph_0 : Int → Int) (pn_0 : Int) (pm_0 : Int) (alive_0 : Int → Int) (row_0 : Int → Int) (rowMany_0 : Int) (onlyPiece_0 : Int) (drawnNode_0 : Int → Int) (drawnEdge_0 : Int → Int) (pieceOf_0 : Int → Int) (gx : Int) (k1 : 1 ≤ x1 ∧ x1 ≤ 30) (k2 : 0 ≤ x2 ∧ x2 ≤ 24) (k3 : 0 ≤ x3 ∧ x3 ≤ 24) (k5 : 0 ≤ x5 ∧ x5 ≤ 29) (k6 : (-2) ≤ x6 ∧ x6 ≤ 26) (k8 : 0 ≤ x8 ∧ x8 ≤ 24) (k10 : 0 ≤ x10 ∧ x10 ≤ 24) (k11 : 0 ≤ x11 ∧ x11 ≤ 23) (k12 : 1 ≤ x12 ∧ x12 ≤ 24) (k14 : 0 ≤ x14 ∧ x14 ≤ 30) (k15 : 0 ≤ x15 ∧ x15 ≤ 0) (d0 : x12 + (-4294967296) ≤ x11 ∧ x11 ≤ x12 + (-1)) (d1 : x1 + (-4294967296) ≤ x5 ∧ x5 ≤ x1 + (-1)) (d2 : x1 + (-4294967296) ≤ x5 ∧ x5 ≤ x1 + 0) (g0 : x14 = wayMany_0) (f1 : x11 < x12) (h2 : x12 = bestWay_0 (x5)) (h4 : x11 = way_0 (x5)) (f6 : x5 < x1) (f7 : x8 ≠ x10) (h8 : x10 = bestWay_0 (x5)) (h9 : x8 = way_0 (x5)) (f10 : x5 < x1) (f11 : GOK (pn_0) (pm_0) (pt_0) (ph_0)) (f12 : STB (pn_0) (pm_0) (pt_0) (ph_0) (alive_0)) (f13 : STR (pn_0) (rowMany_0) (pt_0) (ph_0) (row_0)) (f14 : onlyPiece_0 = (-1)) (f15 : (-1) * rowMany_0 + ((-1) * x6 + 0) ≤ (-26)) (f16 : DRR (pn_0) (rowMany_0) (drawnNode_0) (row_0)) (f17 : DEM (pm_0) (pt_0) (ph_0) (drawnNode_0) (drawnEdge_0)) (f18 : UA (pm_0) (alive_0) (drawnEdge_0)) (f19 : (rowMany_0 + 1) ≤ pn_0) (f20 : SB1 (pn_0) (pm_0) (onlyPiece_0) (pt_0) (ph_0) (drawnEdge_0) (pieceOf_0) (drawnNode_0) (bestWay_0) (x1) (x2) (x3)) (f21 : WYM (pn_0) (wayMany_0) (drawnNode_0) (way_0)) (f22 : 1 * x2 + ((-1) * pn_0 + 0) ≤ (-1)) (f23 : 1 * x3 + ((-1) * pn_0 + 0) ≤ (-1)) (f24 : drawnNode_0 (x2) ≠ 0) (f25 : x1 = wayMany_0) (hK_0_33 : ∀ j : Int, 0 ≤ j → j < 80 → 0 ≤ pt_0 j ∧ pt_0 j ≤ 24) (hK_0_34 : ∀ j : Int, 0 ≤ j → j < 80 → 0 ≤ ph_0 j ∧ ph_0 j ≤ 24) (hK_0_35 : ∀ j : Int, 0 ≤ j → j < 80 → 0 ≤ alive_0 j ∧ alive_0 j ≤ 1) (hK_0_42 : ∀ j : Int, 0 ≤ j → j < 26 → 0 ≤ drawnNode_0 j ∧ drawnNode_0 j ≤ 1) (hK_0_43 : ∀ j : Int, 0 ≤ j → j < 80 → 0 ≤ drawnEdge_0 j ∧ drawnEdge_0 j ≤ 1) (hK_0_44 : ∀ j : Int, 0 ≤ j → j < 80 → (-1) ≤ pieceOf_0 j ∧ pieceOf_0 j ≤ 79) (hK_0_46 : ∀ j : Int, 0 ≤ j → j < 30 → 0 ≤ way_0 j ∧ way_0 j ≤ 24) (hK_0_52 : ∀ j : Int, 0 ≤ j → j < 30 → 0 ≤ bestWay_0 j ∧ bestWay_0 j ≤ 24) (hK_0_117 : ∀ j : Int, 0 ≤ j → j < 100 → 0 ≤ row_0 j ∧ row_0 j ≤ 75) (kz_0_31 : 0 ≤ pn_0 ∧ pn_0 ≤ 25) (kz_0_32 : 0 ≤ pm_0 ∧ pm_0 ≤ 80) (kz_0_45 : 0 ≤ wayMany_0 ∧ wayMany_0 ≤ 30) (kz_0_49 : (-1) ≤ onlyPiece_0 ∧ onlyPiece_0 ≤ 79) (kz_0_125 : 0 ≤ rowMany_0 ∧ rowMany_0 ≤ 100) (ex2 : gx = 0 + (1 * x6 + 0)) (ex3 : (-2) ≤ gx ∧ gx ≤ 26) : STB (pn_0) (pm_0) (pt_0) (ph_0) (alive_0) := by
  first | assumption
set_option maxHeartbeats 4000000 in
theorem vc_Mo_stOrder_32_2 (x1 : Int) (x2 : Int) (x3 : Int) (x5 : Int) (x6 : Int) (x8 : Int) (x10 : Int) (x11 : Int) (x12 : Int) (x14 : Int) (x15 : Int) (wayMany_0 : Int) (bestWay_0 : Int → Int) (way_0 : Int → Int) (pt_0 : Int → Int) (ph_0 : Int → Int) (pn_0 : Int) (pm_0 : Int) (alive_0 : Int → Int) (row_0 : Int → Int) (rowMany_0 : Int) (onlyPiece_0 : Int) (drawnNode_0 : Int → Int) (drawnEdge_0 : Int → Int) (pieceOf_0 : Int → Int) (gx : Int) (k1 : 1 ≤ x1 ∧ x1 ≤ 30) (k2 : 0 ≤ x2 ∧ x2 ≤ 24) (k3 : 0 ≤ x3 ∧ x3 ≤ 24) (k5 : 0 ≤ x5 ∧ x5 ≤ 29) (k6 : (-2) ≤ x6 ∧ x6 ≤ 26) (k8 : 0 ≤ x8 ∧ x8 ≤ 24) (k10 : 0 ≤ x10 ∧ x10 ≤ 24) (k11 : 0 ≤ x11 ∧ x11 ≤ 23) (k12 : 1 ≤ x12 ∧ x12 ≤ 24) (k14 : 0 ≤ x14 ∧ x14 ≤ 30) (k15 : 0 ≤ x15 ∧ x15 ≤ 0) (d0 : x12 + (-4294967296) ≤ x11 ∧ x11 ≤ x12 + (-1)) (d1 : x1 + (-4294967296) ≤ x5 ∧ x5 ≤ x1 + (-1)) (d2 : x1 + (-4294967296) ≤ x5 ∧ x5 ≤ x1 + 0) (g0 : x14 = wayMany_0) (f1 : x11 < x12) (h2 : x12 = bestWay_0 (x5)) (h4 : x11 = way_0 (x5)) (f6 : x5 < x1) (f7 : x8 ≠ x10) (h8 : x10 = bestWay_0 (x5)) (h9 : x8 = way_0 (x5)) (f10 : x5 < x1) (f11 : GOK (pn_0) (pm_0) (pt_0) (ph_0)) (f12 : STB (pn_0) (pm_0) (pt_0) (ph_0) (alive_0)) (f13 : STR (pn_0) (rowMany_0) (pt_0) (ph_0) (row_0)) (f14 : onlyPiece_0 = (-1)) (f15 : (-1) * rowMany_0 + ((-1) * x6 + 0) ≤ (-26)) (f16 : DRR (pn_0) (rowMany_0) (drawnNode_0) (row_0)) (f17 : DEM (pm_0) (pt_0) (ph_0) (drawnNode_0) (drawnEdge_0)) (f18 : UA (pm_0) (alive_0) (drawnEdge_0)) (f19 : (rowMany_0 + 1) ≤ pn_0) (f20 : SB1 (pn_0) (pm_0) (onlyPiece_0) (pt_0) (ph_0) (drawnEdge_0) (pieceOf_0) (drawnNode_0) (bestWay_0) (x1) (x2) (x3)) (f21 : WYM (pn_0) (wayMany_0) (drawnNode_0) (way_0)) (f22 : 1 * x2 + ((-1) * pn_0 + 0) ≤ (-1)) (f23 : 1 * x3 + ((-1) * pn_0 + 0) ≤ (-1)) (f24 : drawnNode_0 (x2) ≠ 0) (f25 : x1 = wayMany_0) (hK_0_33 : ∀ j : Int, 0 ≤ j → j < 80 → 0 ≤ pt_0 j ∧ pt_0 j ≤ 24) (hK_0_34 : ∀ j : Int, 0 ≤ j → j < 80 → 0 ≤ ph_0 j ∧ ph_0 j ≤ 24) (hK_0_35 : ∀ j : Int, 0 ≤ j → j < 80 → 0 ≤ alive_0 j ∧ alive_0 j ≤ 1) (hK_0_42 : ∀ j : Int, 0 ≤ j → j < 26 → 0 ≤ drawnNode_0 j ∧ drawnNode_0 j ≤ 1) (hK_0_43 : ∀ j : Int, 0 ≤ j → j < 80 → 0 ≤ drawnEdge_0 j ∧ drawnEdge_0 j ≤ 1) (hK_0_44 : ∀ j : Int, 0 ≤ j → j < 80 → (-1) ≤ pieceOf_0 j ∧ pieceOf_0 j ≤ 79) (hK_0_46 : ∀ j : Int, 0 ≤ j → j < 30 → 0 ≤ way_0 j ∧ way_0 j ≤ 24) (hK_0_52 : ∀ j : Int, 0 ≤ j → j < 30 → 0 ≤ bestWay_0 j ∧ bestWay_0 j ≤ 24) (hK_0_117 : ∀ j : Int, 0 ≤ j → j < 100 → 0 ≤ row_0 j ∧ row_0 j ≤ 75) (kz_0_31 : 0 ≤ pn_0 ∧ pn_0 ≤ 25) (kz_0_32 : 0 ≤ pm_0 ∧ pm_0 ≤ 80) (kz_0_45 : 0 ≤ wayMany_0 ∧ wayMany_0 ≤ 30) (kz_0_49 : (-1) ≤ onlyPiece_0 ∧ onlyPiece_0 ≤ 79) (kz_0_125 : 0 ≤ rowMany_0 ∧ rowMany_0 ≤ 100) (ex2 : gx = 0 + (1 * x6 + 0)) (ex3 : (-2) ≤ gx ∧ gx ≤ 26) : STR (pn_0) (rowMany_0) (pt_0) (ph_0) (row_0) := by
  first | assumption
set_option maxHeartbeats 4000000 in
theorem vc_Mo_stOrder_32_3 (x1 : Int) (x2 : Int) (x3 : Int) (x5 : Int) (x6 : Int) (x8 : Int) (x10 : Int) (x11 : Int) (x12 : Int) (x14 : Int) (x15 : Int) (wayMany_0 : Int) (bestWay_0 : Int → Int) (way_0 : Int → Int) (pt_0 : Int → Int) (ph_0 : Int → Int) (pn_0 : Int) (pm_0 : Int) (alive_0 : Int → Int) (row_0 : Int → Int) (rowMany_0 : Int) (onlyPiece_0 : Int) (drawnNode_0 : Int → Int) (drawnEdge_0 : Int → Int) (pieceOf_0 : Int → Int) (gx : Int) (k1 : 1 ≤ x1 ∧ x1 ≤ 30) (k2 : 0 ≤ x2 ∧ x2 ≤ 24) (k3 : 0 ≤ x3 ∧ x3 ≤ 24) (k5 : 0 ≤ x5 ∧ x5 ≤ 29) (k6 : (-2) ≤ x6 ∧ x6 ≤ 26) (k8 : 0 ≤ x8 ∧ x8 ≤ 24) (k10 : 0 ≤ x10 ∧ x10 ≤ 24) (k11 : 0 ≤ x11 ∧ x11 ≤ 23) (k12 : 1 ≤ x12 ∧ x12 ≤ 24) (k14 : 0 ≤ x14 ∧ x14 ≤ 30) (k15 : 0 ≤ x15 ∧ x15 ≤ 0) (d0 : x12 + (-4294967296) ≤ x11 ∧ x11 ≤ x12 + (-1)) (d1 : x1 + (-4294967296) ≤ x5 ∧ x5 ≤ x1 + (-1)) (d2 : x1 + (-4294967296) ≤ x5 ∧ x5 ≤ x1 + 0) (g0 : x14 = wayMany_0) (f1 : x11 < x12) (h2 : x12 = bestWay_0 (x5)) (h4 : x11 = way_0 (x5)) (f6 : x5 < x1) (f7 : x8 ≠ x10) (h8 : x10 = bestWay_0 (x5)) (h9 : x8 = way_0 (x5)) (f10 : x5 < x1) (f11 : GOK (pn_0) (pm_0) (pt_0) (ph_0)) (f12 : STB (pn_0) (pm_0) (pt_0) (ph_0) (alive_0)) (f13 : STR (pn_0) (rowMany_0) (pt_0) (ph_0) (row_0)) (f14 : onlyPiece_0 = (-1)) (f15 : (-1) * rowMany_0 + ((-1) * x6 + 0) ≤ (-26)) (f16 : DRR (pn_0) (rowMany_0) (drawnNode_0) (row_0)) (f17 : DEM (pm_0) (pt_0) (ph_0) (drawnNode_0) (drawnEdge_0)) (f18 : UA (pm_0) (alive_0) (drawnEdge_0)) (f19 : (rowMany_0 + 1) ≤ pn_0) (f20 : SB1 (pn_0) (pm_0) (onlyPiece_0) (pt_0) (ph_0) (drawnEdge_0) (pieceOf_0) (drawnNode_0) (bestWay_0) (x1) (x2) (x3)) (f21 : WYM (pn_0) (wayMany_0) (drawnNode_0) (way_0)) (f22 : 1 * x2 + ((-1) * pn_0 + 0) ≤ (-1)) (f23 : 1 * x3 + ((-1) * pn_0 + 0) ≤ (-1)) (f24 : drawnNode_0 (x2) ≠ 0) (f25 : x1 = wayMany_0) (hK_0_33 : ∀ j : Int, 0 ≤ j → j < 80 → 0 ≤ pt_0 j ∧ pt_0 j ≤ 24) (hK_0_34 : ∀ j : Int, 0 ≤ j → j < 80 → 0 ≤ ph_0 j ∧ ph_0 j ≤ 24) (hK_0_35 : ∀ j : Int, 0 ≤ j → j < 80 → 0 ≤ alive_0 j ∧ alive_0 j ≤ 1) (hK_0_42 : ∀ j : Int, 0 ≤ j → j < 26 → 0 ≤ drawnNode_0 j ∧ drawnNode_0 j ≤ 1) (hK_0_43 : ∀ j : Int, 0 ≤ j → j < 80 → 0 ≤ drawnEdge_0 j ∧ drawnEdge_0 j ≤ 1) (hK_0_44 : ∀ j : Int, 0 ≤ j → j < 80 → (-1) ≤ pieceOf_0 j ∧ pieceOf_0 j ≤ 79) (hK_0_46 : ∀ j : Int, 0 ≤ j → j < 30 → 0 ≤ way_0 j ∧ way_0 j ≤ 24) (hK_0_52 : ∀ j : Int, 0 ≤ j → j < 30 → 0 ≤ bestWay_0 j ∧ bestWay_0 j ≤ 24) (hK_0_117 : ∀ j : Int, 0 ≤ j → j < 100 → 0 ≤ row_0 j ∧ row_0 j ≤ 75) (kz_0_31 : 0 ≤ pn_0 ∧ pn_0 ≤ 25) (kz_0_32 : 0 ≤ pm_0 ∧ pm_0 ≤ 80) (kz_0_45 : 0 ≤ wayMany_0 ∧ wayMany_0 ≤ 30) (kz_0_49 : (-1) ≤ onlyPiece_0 ∧ onlyPiece_0 ≤ 79) (kz_0_125 : 0 ≤ rowMany_0 ∧ rowMany_0 ≤ 100) (ex2 : gx = 0 + (1 * x6 + 0)) (ex3 : (-2) ≤ gx ∧ gx ≤ 26) : onlyPiece_0 = (-1) := by
  first
    | omega
    | (have h := ‹STB _ _ _ _ _›.1.2.2; omega)
    | (have h := ‹STR _ _ _ _ _›.1; omega)
    | (have h := ‹STR _ _ _ _ _›.1
       have w := ‹STR _ _ _ _ _›.2.1 x1 (by omega) (by omega)
       omega)
    | (have h := bc_len ‹BC1 _ _ _ _ _ _ _›
       have h2 := ‹STR _ _ _ _ _›.1
       omega)
    | (have h := (sb_way ‹SB1 _ _ _ _ _ _ _ _ _ _ _ _› (by omega)).1
       have h2 := ‹STR _ _ _ _ _›.1
       omega)
    | (have h := ‹WYM _ _ _ _›.1
       have h2 := ‹STR _ _ _ _ _›.1
       omega)
set_option maxHeartbeats 4000000 in
theorem vc_Mo_stOrder_32_4 (x1 : Int) (x2 : Int) (x3 : Int) (x5 : Int) (x6 : Int) (x8 : Int) (x10 : Int) (x11 : Int) (x12 : Int) (x14 : Int) (x15 : Int) (wayMany_0 : Int) (bestWay_0 : Int → Int) (way_0 : Int → Int) (pt_0 : Int → Int) (ph_0 : Int → Int) (pn_0 : Int) (pm_0 : Int) (alive_0 : Int → Int) (row_0 : Int → Int) (rowMany_0 : Int) (onlyPiece_0 : Int) (drawnNode_0 : Int → Int) (drawnEdge_0 : Int → Int) (pieceOf_0 : Int → Int) (gx : Int) (k1 : 1 ≤ x1 ∧ x1 ≤ 30) (k2 : 0 ≤ x2 ∧ x2 ≤ 24) (k3 : 0 ≤ x3 ∧ x3 ≤ 24) (k5 : 0 ≤ x5 ∧ x5 ≤ 29) (k6 : (-2) ≤ x6 ∧ x6 ≤ 26) (k8 : 0 ≤ x8 ∧ x8 ≤ 24) (k10 : 0 ≤ x10 ∧ x10 ≤ 24) (k11 : 0 ≤ x11 ∧ x11 ≤ 23) (k12 : 1 ≤ x12 ∧ x12 ≤ 24) (k14 : 0 ≤ x14 ∧ x14 ≤ 30) (k15 : 0 ≤ x15 ∧ x15 ≤ 0) (d0 : x12 + (-4294967296) ≤ x11 ∧ x11 ≤ x12 + (-1)) (d1 : x1 + (-4294967296) ≤ x5 ∧ x5 ≤ x1 + (-1)) (d2 : x1 + (-4294967296) ≤ x5 ∧ x5 ≤ x1 + 0) (g0 : x14 = wayMany_0) (f1 : x11 < x12) (h2 : x12 = bestWay_0 (x5)) (h4 : x11 = way_0 (x5)) (f6 : x5 < x1) (f7 : x8 ≠ x10) (h8 : x10 = bestWay_0 (x5)) (h9 : x8 = way_0 (x5)) (f10 : x5 < x1) (f11 : GOK (pn_0) (pm_0) (pt_0) (ph_0)) (f12 : STB (pn_0) (pm_0) (pt_0) (ph_0) (alive_0)) (f13 : STR (pn_0) (rowMany_0) (pt_0) (ph_0) (row_0)) (f14 : onlyPiece_0 = (-1)) (f15 : (-1) * rowMany_0 + ((-1) * x6 + 0) ≤ (-26)) (f16 : DRR (pn_0) (rowMany_0) (drawnNode_0) (row_0)) (f17 : DEM (pm_0) (pt_0) (ph_0) (drawnNode_0) (drawnEdge_0)) (f18 : UA (pm_0) (alive_0) (drawnEdge_0)) (f19 : (rowMany_0 + 1) ≤ pn_0) (f20 : SB1 (pn_0) (pm_0) (onlyPiece_0) (pt_0) (ph_0) (drawnEdge_0) (pieceOf_0) (drawnNode_0) (bestWay_0) (x1) (x2) (x3)) (f21 : WYM (pn_0) (wayMany_0) (drawnNode_0) (way_0)) (f22 : 1 * x2 + ((-1) * pn_0 + 0) ≤ (-1)) (f23 : 1 * x3 + ((-1) * pn_0 + 0) ≤ (-1)) (f24 : drawnNode_0 (x2) ≠ 0) (f25 : x1 = wayMany_0) (hK_0_33 : ∀ j : Int, 0 ≤ j → j < 80 → 0 ≤ pt_0 j ∧ pt_0 j ≤ 24) (hK_0_34 : ∀ j : Int, 0 ≤ j → j < 80 → 0 ≤ ph_0 j ∧ ph_0 j ≤ 24) (hK_0_35 : ∀ j : Int, 0 ≤ j → j < 80 → 0 ≤ alive_0 j ∧ alive_0 j ≤ 1) (hK_0_42 : ∀ j : Int, 0 ≤ j → j < 26 → 0 ≤ drawnNode_0 j ∧ drawnNode_0 j ≤ 1) (hK_0_43 : ∀ j : Int, 0 ≤ j → j < 80 → 0 ≤ drawnEdge_0 j ∧ drawnEdge_0 j ≤ 1) (hK_0_44 : ∀ j : Int, 0 ≤ j → j < 80 → (-1) ≤ pieceOf_0 j ∧ pieceOf_0 j ≤ 79) (hK_0_46 : ∀ j : Int, 0 ≤ j → j < 30 → 0 ≤ way_0 j ∧ way_0 j ≤ 24) (hK_0_52 : ∀ j : Int, 0 ≤ j → j < 30 → 0 ≤ bestWay_0 j ∧ bestWay_0 j ≤ 24) (hK_0_117 : ∀ j : Int, 0 ≤ j → j < 100 → 0 ≤ row_0 j ∧ row_0 j ≤ 75) (kz_0_31 : 0 ≤ pn_0 ∧ pn_0 ≤ 25) (kz_0_32 : 0 ≤ pm_0 ∧ pm_0 ≤ 80) (kz_0_45 : 0 ≤ wayMany_0 ∧ wayMany_0 ≤ 30) (kz_0_49 : (-1) ≤ onlyPiece_0 ∧ onlyPiece_0 ≤ 79) (kz_0_125 : 0 ≤ rowMany_0 ∧ rowMany_0 ≤ 100) (ex2 : gx = 0 + (1 * x6 + 0)) (ex3 : (-2) ≤ gx ∧ gx ≤ 26) : (-1) * rowMany_0 + ((-1) * gx + 0) ≤ (-26) := by
  first
    | omega
    | (have h := ‹STB _ _ _ _ _›.1.2.2; omega)
    | (have h := ‹STR _ _ _ _ _›.1; omega)
    | (have h := ‹STR _ _ _ _ _›.1
       have w := ‹STR _ _ _ _ _›.2.1 x1 (by omega) (by omega)
       omega)
    | (have h := bc_len ‹BC1 _ _ _ _ _ _ _›
       have h2 := ‹STR _ _ _ _ _›.1
       omega)
    | (have h := (sb_way ‹SB1 _ _ _ _ _ _ _ _ _ _ _ _› (by omega)).1
       have h2 := ‹STR _ _ _ _ _›.1
       omega)
    | (have h := ‹WYM _ _ _ _›.1
       have h2 := ‹STR _ _ _ _ _›.1
       omega)
set_option maxHeartbeats 4000000 in
theorem vc_Mo_stOrder_32_5 (x1 : Int) (x2 : Int) (x3 : Int) (x5 : Int) (x6 : Int) (x8 : Int) (x10 : Int) (x11 : Int) (x12 : Int) (x14 : Int) (x15 : Int) (wayMany_0 : Int) (bestWay_0 : Int → Int) (way_0 : Int → Int) (pt_0 : Int → Int) (ph_0 : Int → Int) (pn_0 : Int) (pm_0 : Int) (alive_0 : Int → Int) (row_0 : Int → Int) (rowMany_0 : Int) (onlyPiece_0 : Int) (drawnNode_0 : Int → Int) (drawnEdge_0 : Int → Int) (pieceOf_0 : Int → Int) (gx : Int) (k1 : 1 ≤ x1 ∧ x1 ≤ 30) (k2 : 0 ≤ x2 ∧ x2 ≤ 24) (k3 : 0 ≤ x3 ∧ x3 ≤ 24) (k5 : 0 ≤ x5 ∧ x5 ≤ 29) (k6 : (-2) ≤ x6 ∧ x6 ≤ 26) (k8 : 0 ≤ x8 ∧ x8 ≤ 24) (k10 : 0 ≤ x10 ∧ x10 ≤ 24) (k11 : 0 ≤ x11 ∧ x11 ≤ 23) (k12 : 1 ≤ x12 ∧ x12 ≤ 24) (k14 : 0 ≤ x14 ∧ x14 ≤ 30) (k15 : 0 ≤ x15 ∧ x15 ≤ 0) (d0 : x12 + (-4294967296) ≤ x11 ∧ x11 ≤ x12 + (-1)) (d1 : x1 + (-4294967296) ≤ x5 ∧ x5 ≤ x1 + (-1)) (d2 : x1 + (-4294967296) ≤ x5 ∧ x5 ≤ x1 + 0) (g0 : x14 = wayMany_0) (f1 : x11 < x12) (h2 : x12 = bestWay_0 (x5)) (h4 : x11 = way_0 (x5)) (f6 : x5 < x1) (f7 : x8 ≠ x10) (h8 : x10 = bestWay_0 (x5)) (h9 : x8 = way_0 (x5)) (f10 : x5 < x1) (f11 : GOK (pn_0) (pm_0) (pt_0) (ph_0)) (f12 : STB (pn_0) (pm_0) (pt_0) (ph_0) (alive_0)) (f13 : STR (pn_0) (rowMany_0) (pt_0) (ph_0) (row_0)) (f14 : onlyPiece_0 = (-1)) (f15 : (-1) * rowMany_0 + ((-1) * x6 + 0) ≤ (-26)) (f16 : DRR (pn_0) (rowMany_0) (drawnNode_0) (row_0)) (f17 : DEM (pm_0) (pt_0) (ph_0) (drawnNode_0) (drawnEdge_0)) (f18 : UA (pm_0) (alive_0) (drawnEdge_0)) (f19 : (rowMany_0 + 1) ≤ pn_0) (f20 : SB1 (pn_0) (pm_0) (onlyPiece_0) (pt_0) (ph_0) (drawnEdge_0) (pieceOf_0) (drawnNode_0) (bestWay_0) (x1) (x2) (x3)) (f21 : WYM (pn_0) (wayMany_0) (drawnNode_0) (way_0)) (f22 : 1 * x2 + ((-1) * pn_0 + 0) ≤ (-1)) (f23 : 1 * x3 + ((-1) * pn_0 + 0) ≤ (-1)) (f24 : drawnNode_0 (x2) ≠ 0) (f25 : x1 = wayMany_0) (hK_0_33 : ∀ j : Int, 0 ≤ j → j < 80 → 0 ≤ pt_0 j ∧ pt_0 j ≤ 24) (hK_0_34 : ∀ j : Int, 0 ≤ j → j < 80 → 0 ≤ ph_0 j ∧ ph_0 j ≤ 24) (hK_0_35 : ∀ j : Int, 0 ≤ j → j < 80 → 0 ≤ alive_0 j ∧ alive_0 j ≤ 1) (hK_0_42 : ∀ j : Int, 0 ≤ j → j < 26 → 0 ≤ drawnNode_0 j ∧ drawnNode_0 j ≤ 1) (hK_0_43 : ∀ j : Int, 0 ≤ j → j < 80 → 0 ≤ drawnEdge_0 j ∧ drawnEdge_0 j ≤ 1) (hK_0_44 : ∀ j : Int, 0 ≤ j → j < 80 → (-1) ≤ pieceOf_0 j ∧ pieceOf_0 j ≤ 79) (hK_0_46 : ∀ j : Int, 0 ≤ j → j < 30 → 0 ≤ way_0 j ∧ way_0 j ≤ 24) (hK_0_52 : ∀ j : Int, 0 ≤ j → j < 30 → 0 ≤ bestWay_0 j ∧ bestWay_0 j ≤ 24) (hK_0_117 : ∀ j : Int, 0 ≤ j → j < 100 → 0 ≤ row_0 j ∧ row_0 j ≤ 75) (kz_0_31 : 0 ≤ pn_0 ∧ pn_0 ≤ 25) (kz_0_32 : 0 ≤ pm_0 ∧ pm_0 ≤ 80) (kz_0_45 : 0 ≤ wayMany_0 ∧ wayMany_0 ≤ 30) (kz_0_49 : (-1) ≤ onlyPiece_0 ∧ onlyPiece_0 ≤ 79) (kz_0_125 : 0 ≤ rowMany_0 ∧ rowMany_0 ≤ 100) (ex2 : gx = 0 + (1 * x6 + 0)) (ex3 : (-2) ≤ gx ∧ gx ≤ 26) : DRR (pn_0) (rowMany_0) (drawnNode_0) (row_0) := by
  first | assumption
set_option maxHeartbeats 4000000 in
theorem vc_Mo_stOrder_32_6 (x1 : Int) (x2 : Int) (x3 : Int) (x5 : Int) (x6 : Int) (x8 : Int) (x10 : Int) (x11 : Int) (x12 : Int) (x14 : Int) (x15 : Int) (wayMany_0 : Int) (bestWay_0 : Int → Int) (way_0 : Int → Int) (pt_0 : Int → Int) (ph_0 : Int → Int) (pn_0 : Int) (pm_0 : Int) (alive_0 : Int → Int) (row_0 : Int → Int) (rowMany_0 : Int) (onlyPiece_0 : Int) (drawnNode_0 : Int → Int) (drawnEdge_0 : Int → Int) (pieceOf_0 : Int → Int) (gx : Int) (k1 : 1 ≤ x1 ∧ x1 ≤ 30) (k2 : 0 ≤ x2 ∧ x2 ≤ 24) (k3 : 0 ≤ x3 ∧ x3 ≤ 24) (k5 : 0 ≤ x5 ∧ x5 ≤ 29) (k6 : (-2) ≤ x6 ∧ x6 ≤ 26) (k8 : 0 ≤ x8 ∧ x8 ≤ 24) (k10 : 0 ≤ x10 ∧ x10 ≤ 24) (k11 : 0 ≤ x11 ∧ x11 ≤ 23) (k12 : 1 ≤ x12 ∧ x12 ≤ 24) (k14 : 0 ≤ x14 ∧ x14 ≤ 30) (k15 : 0 ≤ x15 ∧ x15 ≤ 0) (d0 : x12 + (-4294967296) ≤ x11 ∧ x11 ≤ x12 + (-1)) (d1 : x1 + (-4294967296) ≤ x5 ∧ x5 ≤ x1 + (-1)) (d2 : x1 + (-4294967296) ≤ x5 ∧ x5 ≤ x1 + 0) (g0 : x14 = wayMany_0) (f1 : x11 < x12) (h2 : x12 = bestWay_0 (x5)) (h4 : x11 = way_0 (x5)) (f6 : x5 < x1) (f7 : x8 ≠ x10) (h8 : x10 = bestWay_0 (x5)) (h9 : x8 = way_0 (x5)) (f10 : x5 < x1) (f11 : GOK (pn_0) (pm_0) (pt_0) (ph_0)) (f12 : STB (pn_0) (pm_0) (pt_0) (ph_0) (alive_0)) (f13 : STR (pn_0) (rowMany_0) (pt_0) (ph_0) (row_0)) (f14 : onlyPiece_0 = (-1)) (f15 : (-1) * rowMany_0 + ((-1) * x6 + 0) ≤ (-26)) (f16 : DRR (pn_0) (rowMany_0) (drawnNode_0) (row_0)) (f17 : DEM (pm_0) (pt_0) (ph_0) (drawnNode_0) (drawnEdge_0)) (f18 : UA (pm_0) (alive_0) (drawnEdge_0)) (f19 : (rowMany_0 + 1) ≤ pn_0) (f20 : SB1 (pn_0) (pm_0) (onlyPiece_0) (pt_0) (ph_0) (drawnEdge_0) (pieceOf_0) (drawnNode_0) (bestWay_0) (x1) (x2) (x3)) (f21 : WYM (pn_0) (wayMany_0) (drawnNode_0) (way_0)) (f22 : 1 * x2 + ((-1) * pn_0 + 0) ≤ (-1)) (f23 : 1 * x3 + ((-1) * pn_0 + 0) ≤ (-1)) (f24 : drawnNode_0 (x2) ≠ 0) (f25 : x1 = wayMany_0) (hK_0_33 : ∀ j : Int, 0 ≤ j → j < 80 → 0 ≤ pt_0 j ∧ pt_0 j ≤ 24) (hK_0_34 : ∀ j : Int, 0 ≤ j → j < 80 → 0 ≤ ph_0 j ∧ ph_0 j ≤ 24) (hK_0_35 : ∀ j : Int, 0 ≤ j → j < 80 → 0 ≤ alive_0 j ∧ alive_0 j ≤ 1) (hK_0_42 : ∀ j : Int, 0 ≤ j → j < 26 → 0 ≤ drawnNode_0 j ∧ drawnNode_0 j ≤ 1) (hK_0_43 : ∀ j : Int, 0 ≤ j → j < 80 → 0 ≤ drawnEdge_0 j ∧ drawnEdge_0 j ≤ 1) (hK_0_44 : ∀ j : Int, 0 ≤ j → j < 80 → (-1) ≤ pieceOf_0 j ∧ pieceOf_0 j ≤ 79) (hK_0_46 : ∀ j : Int, 0 ≤ j → j < 30 → 0 ≤ way_0 j ∧ way_0 j ≤ 24) (hK_0_52 : ∀ j : Int, 0 ≤ j → j < 30 → 0 ≤ bestWay_0 j ∧ bestWay_0 j ≤ 24) (hK_0_117 : ∀ j : Int, 0 ≤ j → j < 100 → 0 ≤ row_0 j ∧ row_0 j ≤ 75) (kz_0_31 : 0 ≤ pn_0 ∧ pn_0 ≤ 25) (kz_0_32 : 0 ≤ pm_0 ∧ pm_0 ≤ 80) (kz_0_45 : 0 ≤ wayMany_0 ∧ wayMany_0 ≤ 30) (kz_0_49 : (-1) ≤ onlyPiece_0 ∧ onlyPiece_0 ≤ 79) (kz_0_125 : 0 ≤ rowMany_0 ∧ rowMany_0 ≤ 100) (ex2 : gx = 0 + (1 * x6 + 0)) (ex3 : (-2) ≤ gx ∧ gx ≤ 26) : DEM (pm_0) (pt_0) (ph_0) (drawnNode_0) (drawnEdge_0) := by
  first | assumption
set_option maxHeartbeats 4000000 in
theorem vc_Mo_stOrder_32_7 (x1 : Int) (x2 : Int) (x3 : Int) (x5 : Int) (x6 : Int) (x8 : Int) (x10 : Int) (x11 : Int) (x12 : Int) (x14 : Int) (x15 : Int) (wayMany_0 : Int) (bestWay_0 : Int → Int) (way_0 : Int → Int) (pt_0 : Int → Int) (ph_0 : Int → Int) (pn_0 : Int) (pm_0 : Int) (alive_0 : Int → Int) (row_0 : Int → Int) (rowMany_0 : Int) (onlyPiece_0 : Int) (drawnNode_0 : Int → Int) (drawnEdge_0 : Int → Int) (pieceOf_0 : Int → Int) (gx : Int) (k1 : 1 ≤ x1 ∧ x1 ≤ 30) (k2 : 0 ≤ x2 ∧ x2 ≤ 24) (k3 : 0 ≤ x3 ∧ x3 ≤ 24) (k5 : 0 ≤ x5 ∧ x5 ≤ 29) (k6 : (-2) ≤ x6 ∧ x6 ≤ 26) (k8 : 0 ≤ x8 ∧ x8 ≤ 24) (k10 : 0 ≤ x10 ∧ x10 ≤ 24) (k11 : 0 ≤ x11 ∧ x11 ≤ 23) (k12 : 1 ≤ x12 ∧ x12 ≤ 24) (k14 : 0 ≤ x14 ∧ x14 ≤ 30) (k15 : 0 ≤ x15 ∧ x15 ≤ 0) (d0 : x12 + (-4294967296) ≤ x11 ∧ x11 ≤ x12 + (-1)) (d1 : x1 + (-4294967296) ≤ x5 ∧ x5 ≤ x1 + (-1)) (d2 : x1 + (-4294967296) ≤ x5 ∧ x5 ≤ x1 + 0) (g0 : x14 = wayMany_0) (f1 : x11 < x12) (h2 : x12 = bestWay_0 (x5)) (h4 : x11 = way_0 (x5)) (f6 : x5 < x1) (f7 : x8 ≠ x10) (h8 : x10 = bestWay_0 (x5)) (h9 : x8 = way_0 (x5)) (f10 : x5 < x1) (f11 : GOK (pn_0) (pm_0) (pt_0) (ph_0)) (f12 : STB (pn_0) (pm_0) (pt_0) (ph_0) (alive_0)) (f13 : STR (pn_0) (rowMany_0) (pt_0) (ph_0) (row_0)) (f14 : onlyPiece_0 = (-1)) (f15 : (-1) * rowMany_0 + ((-1) * x6 + 0) ≤ (-26)) (f16 : DRR (pn_0) (rowMany_0) (drawnNode_0) (row_0)) (f17 : DEM (pm_0) (pt_0) (ph_0) (drawnNode_0) (drawnEdge_0)) (f18 : UA (pm_0) (alive_0) (drawnEdge_0)) (f19 : (rowMany_0 + 1) ≤ pn_0) (f20 : SB1 (pn_0) (pm_0) (onlyPiece_0) (pt_0) (ph_0) (drawnEdge_0) (pieceOf_0) (drawnNode_0) (bestWay_0) (x1) (x2) (x3)) (f21 : WYM (pn_0) (wayMany_0) (drawnNode_0) (way_0)) (f22 : 1 * x2 + ((-1) * pn_0 + 0) ≤ (-1)) (f23 : 1 * x3 + ((-1) * pn_0 + 0) ≤ (-1)) (f24 : drawnNode_0 (x2) ≠ 0) (f25 : x1 = wayMany_0) (hK_0_33 : ∀ j : Int, 0 ≤ j → j < 80 → 0 ≤ pt_0 j ∧ pt_0 j ≤ 24) (hK_0_34 : ∀ j : Int, 0 ≤ j → j < 80 → 0 ≤ ph_0 j ∧ ph_0 j ≤ 24) (hK_0_35 : ∀ j : Int, 0 ≤ j → j < 80 → 0 ≤ alive_0 j ∧ alive_0 j ≤ 1) (hK_0_42 : ∀ j : Int, 0 ≤ j → j < 26 → 0 ≤ drawnNode_0 j ∧ drawnNode_0 j ≤ 1) (hK_0_43 : ∀ j : Int, 0 ≤ j → j < 80 → 0 ≤ drawnEdge_0 j ∧ drawnEdge_0 j ≤ 1) (hK_0_44 : ∀ j : Int, 0 ≤ j → j < 80 → (-1) ≤ pieceOf_0 j ∧ pieceOf_0 j ≤ 79) (hK_0_46 : ∀ j : Int, 0 ≤ j → j < 30 → 0 ≤ way_0 j ∧ way_0 j ≤ 24) (hK_0_52 : ∀ j : Int, 0 ≤ j → j < 30 → 0 ≤ bestWay_0 j ∧ bestWay_0 j ≤ 24) (hK_0_117 : ∀ j : Int, 0 ≤ j → j < 100 → 0 ≤ row_0 j ∧ row_0 j ≤ 75) (kz_0_31 : 0 ≤ pn_0 ∧ pn_0 ≤ 25) (kz_0_32 : 0 ≤ pm_0 ∧ pm_0 ≤ 80) (kz_0_45 : 0 ≤ wayMany_0 ∧ wayMany_0 ≤ 30) (kz_0_49 : (-1) ≤ onlyPiece_0 ∧ onlyPiece_0 ≤ 79) (kz_0_125 : 0 ≤ rowMany_0 ∧ rowMany_0 ≤ 100) (ex2 : gx = 0 + (1 * x6 + 0)) (ex3 : (-2) ≤ gx ∧ gx ≤ 26) : UA (pm_0) (alive_0) (drawnEdge_0) := by
  first | assumption
set_option maxHeartbeats 4000000 in
theorem vc_Mo_stOrder_32_8 (x1 : Int) (x2 : Int) (x3 : Int) (x5 : Int) (x6 : Int) (x8 : Int) (x10 : Int) (x11 : Int) (x12 : Int) (x14 : Int) (x15 : Int) (wayMany_0 : Int) (bestWay_0 : Int → Int) (way_0 : Int → Int) (pt_0 : Int → Int) (ph_0 : Int → Int) (pn_0 : Int) (pm_0 : Int) (alive_0 : Int → Int) (row_0 : Int → Int) (rowMany_0 : Int) (onlyPiece_0 : Int) (drawnNode_0 : Int → Int) (drawnEdge_0 : Int → Int) (pieceOf_0 : Int → Int) (gx : Int) (k1 : 1 ≤ x1 ∧ x1 ≤ 30) (k2 : 0 ≤ x2 ∧ x2 ≤ 24) (k3 : 0 ≤ x3 ∧ x3 ≤ 24) (k5 : 0 ≤ x5 ∧ x5 ≤ 29) (k6 : (-2) ≤ x6 ∧ x6 ≤ 26) (k8 : 0 ≤ x8 ∧ x8 ≤ 24) (k10 : 0 ≤ x10 ∧ x10 ≤ 24) (k11 : 0 ≤ x11 ∧ x11 ≤ 23) (k12 : 1 ≤ x12 ∧ x12 ≤ 24) (k14 : 0 ≤ x14 ∧ x14 ≤ 30) (k15 : 0 ≤ x15 ∧ x15 ≤ 0) (d0 : x12 + (-4294967296) ≤ x11 ∧ x11 ≤ x12 + (-1)) (d1 : x1 + (-4294967296) ≤ x5 ∧ x5 ≤ x1 + (-1)) (d2 : x1 + (-4294967296) ≤ x5 ∧ x5 ≤ x1 + 0) (g0 : x14 = wayMany_0) (f1 : x11 < x12) (h2 : x12 = bestWay_0 (x5)) (h4 : x11 = way_0 (x5)) (f6 : x5 < x1) (f7 : x8 ≠ x10) (h8 : x10 = bestWay_0 (x5)) (h9 : x8 = way_0 (x5)) (f10 : x5 < x1) (f11 : GOK (pn_0) (pm_0) (pt_0) (ph_0)) (f12 : STB (pn_0) (pm_0) (pt_0) (ph_0) (alive_0)) (f13 : STR (pn_0) (rowMany_0) (pt_0) (ph_0) (row_0)) (f14 : onlyPiece_0 = (-1)) (f15 : (-1) * rowMany_0 + ((-1) * x6 + 0) ≤ (-26)) (f16 : DRR (pn_0) (rowMany_0) (drawnNode_0) (row_0)) (f17 : DEM (pm_0) (pt_0) (ph_0) (drawnNode_0) (drawnEdge_0)) (f18 : UA (pm_0) (alive_0) (drawnEdge_0)) (f19 : (rowMany_0 + 1) ≤ pn_0) (f20 : SB1 (pn_0) (pm_0) (onlyPiece_0) (pt_0) (ph_0) (drawnEdge_0) (pieceOf_0) (drawnNode_0) (bestWay_0) (x1) (x2) (x3)) (f21 : WYM (pn_0) (wayMany_0) (drawnNode_0) (way_0)) (f22 : 1 * x2 + ((-1) * pn_0 + 0) ≤ (-1)) (f23 : 1 * x3 + ((-1) * pn_0 + 0) ≤ (-1)) (f24 : drawnNode_0 (x2) ≠ 0) (f25 : x1 = wayMany_0) (hK_0_33 : ∀ j : Int, 0 ≤ j → j < 80 → 0 ≤ pt_0 j ∧ pt_0 j ≤ 24) (hK_0_34 : ∀ j : Int, 0 ≤ j → j < 80 → 0 ≤ ph_0 j ∧ ph_0 j ≤ 24) (hK_0_35 : ∀ j : Int, 0 ≤ j → j < 80 → 0 ≤ alive_0 j ∧ alive_0 j ≤ 1) (hK_0_42 : ∀ j : Int, 0 ≤ j → j < 26 → 0 ≤ drawnNode_0 j ∧ drawnNode_0 j ≤ 1) (hK_0_43 : ∀ j : Int, 0 ≤ j → j < 80 → 0 ≤ drawnEdge_0 j ∧ drawnEdge_0 j ≤ 1) (hK_0_44 : ∀ j : Int, 0 ≤ j → j < 80 → (-1) ≤ pieceOf_0 j ∧ pieceOf_0 j ≤ 79) (hK_0_46 : ∀ j : Int, 0 ≤ j → j < 30 → 0 ≤ way_0 j ∧ way_0 j ≤ 24) (hK_0_52 : ∀ j : Int, 0 ≤ j → j < 30 → 0 ≤ bestWay_0 j ∧ bestWay_0 j ≤ 24) (hK_0_117 : ∀ j : Int, 0 ≤ j → j < 100 → 0 ≤ row_0 j ∧ row_0 j ≤ 75) (kz_0_31 : 0 ≤ pn_0 ∧ pn_0 ≤ 25) (kz_0_32 : 0 ≤ pm_0 ∧ pm_0 ≤ 80) (kz_0_45 : 0 ≤ wayMany_0 ∧ wayMany_0 ≤ 30) (kz_0_49 : (-1) ≤ onlyPiece_0 ∧ onlyPiece_0 ≤ 79) (kz_0_125 : 0 ≤ rowMany_0 ∧ rowMany_0 ≤ 100) (ex2 : gx = 0 + (1 * x6 + 0)) (ex3 : (-2) ≤ gx ∧ gx ≤ 26) : (rowMany_0 + 1) ≤ pn_0 := by
  first
    | omega
    | (have h := ‹STB _ _ _ _ _›.1.2.2; omega)
    | (have h := ‹STR _ _ _ _ _›.1; omega)
    | (have h := ‹STR _ _ _ _ _›.1
       have w := ‹STR _ _ _ _ _›.2.1 x1 (by omega) (by omega)
       omega)
    | (have h := bc_len ‹BC1 _ _ _ _ _ _ _›
       have h2 := ‹STR _ _ _ _ _›.1
       omega)
    | (have h := (sb_way ‹SB1 _ _ _ _ _ _ _ _ _ _ _ _› (by omega)).1
       have h2 := ‹STR _ _ _ _ _›.1
       omega)
    | (have h := ‹WYM _ _ _ _›.1
       have h2 := ‹STR _ _ _ _ _›.1
       omega)
set_option maxHeartbeats 4000000 in
theorem vc_Mo_stOrder_32_9 (x1 : Int) (x2 : Int) (x3 : Int) (x5 : Int) (x6 : Int) (x8 : Int) (x10 : Int) (x11 : Int) (x12 : Int) (x14 : Int) (x15 : Int) (wayMany_0 : Int) (bestWay_0 : Int → Int) (way_0 : Int → Int) (pt_0 : Int → Int) (ph_0 : Int → Int) (pn_0 : Int) (pm_0 : Int) (alive_0 : Int → Int) (row_0 : Int → Int) (rowMany_0 : Int) (onlyPiece_0 : Int) (drawnNode_0 : Int → Int) (drawnEdge_0 : Int → Int) (pieceOf_0 : Int → Int) (gx : Int) (k1 : 1 ≤ x1 ∧ x1 ≤ 30) (k2 : 0 ≤ x2 ∧ x2 ≤ 24) (k3 : 0 ≤ x3 ∧ x3 ≤ 24) (k5 : 0 ≤ x5 ∧ x5 ≤ 29) (k6 : (-2) ≤ x6 ∧ x6 ≤ 26) (k8 : 0 ≤ x8 ∧ x8 ≤ 24) (k10 : 0 ≤ x10 ∧ x10 ≤ 24) (k11 : 0 ≤ x11 ∧ x11 ≤ 23) (k12 : 1 ≤ x12 ∧ x12 ≤ 24) (k14 : 0 ≤ x14 ∧ x14 ≤ 30) (k15 : 0 ≤ x15 ∧ x15 ≤ 0) (d0 : x12 + (-4294967296) ≤ x11 ∧ x11 ≤ x12 + (-1)) (d1 : x1 + (-4294967296) ≤ x5 ∧ x5 ≤ x1 + (-1)) (d2 : x1 + (-4294967296) ≤ x5 ∧ x5 ≤ x1 + 0) (g0 : x14 = wayMany_0) (f1 : x11 < x12) (h2 : x12 = bestWay_0 (x5)) (h4 : x11 = way_0 (x5)) (f6 : x5 < x1) (f7 : x8 ≠ x10) (h8 : x10 = bestWay_0 (x5)) (h9 : x8 = way_0 (x5)) (f10 : x5 < x1) (f11 : GOK (pn_0) (pm_0) (pt_0) (ph_0)) (f12 : STB (pn_0) (pm_0) (pt_0) (ph_0) (alive_0)) (f13 : STR (pn_0) (rowMany_0) (pt_0) (ph_0) (row_0)) (f14 : onlyPiece_0 = (-1)) (f15 : (-1) * rowMany_0 + ((-1) * x6 + 0) ≤ (-26)) (f16 : DRR (pn_0) (rowMany_0) (drawnNode_0) (row_0)) (f17 : DEM (pm_0) (pt_0) (ph_0) (drawnNode_0) (drawnEdge_0)) (f18 : UA (pm_0) (alive_0) (drawnEdge_0)) (f19 : (rowMany_0 + 1) ≤ pn_0) (f20 : SB1 (pn_0) (pm_0) (onlyPiece_0) (pt_0) (ph_0) (drawnEdge_0) (pieceOf_0) (drawnNode_0) (bestWay_0) (x1) (x2) (x3)) (f21 : WYM (pn_0) (wayMany_0) (drawnNode_0) (way_0)) (f22 : 1 * x2 + ((-1) * pn_0 + 0) ≤ (-1)) (f23 : 1 * x3 + ((-1) * pn_0 + 0) ≤ (-1)) (f24 : drawnNode_0 (x2) ≠ 0) (f25 : x1 = wayMany_0) (hK_0_33 : ∀ j : Int, 0 ≤ j → j < 80 → 0 ≤ pt_0 j ∧ pt_0 j ≤ 24) (hK_0_34 : ∀ j : Int, 0 ≤ j → j < 80 → 0 ≤ ph_0 j ∧ ph_0 j ≤ 24) (hK_0_35 : ∀ j : Int, 0 ≤ j → j < 80 → 0 ≤ alive_0 j ∧ alive_0 j ≤ 1) (hK_0_42 : ∀ j : Int, 0 ≤ j → j < 26 → 0 ≤ drawnNode_0 j ∧ drawnNode_0 j ≤ 1) (hK_0_43 : ∀ j : Int, 0 ≤ j → j < 80 → 0 ≤ drawnEdge_0 j ∧ drawnEdge_0 j ≤ 1) (hK_0_44 : ∀ j : Int, 0 ≤ j → j < 80 → (-1) ≤ pieceOf_0 j ∧ pieceOf_0 j ≤ 79) (hK_0_46 : ∀ j : Int, 0 ≤ j → j < 30 → 0 ≤ way_0 j ∧ way_0 j ≤ 24) (hK_0_52 : ∀ j : Int, 0 ≤ j → j < 30 → 0 ≤ bestWay_0 j ∧ bestWay_0 j ≤ 24) (hK_0_117 : ∀ j : Int, 0 ≤ j → j < 100 → 0 ≤ row_0 j ∧ row_0 j ≤ 75) (kz_0_31 : 0 ≤ pn_0 ∧ pn_0 ≤ 25) (kz_0_32 : 0 ≤ pm_0 ∧ pm_0 ≤ 80) (kz_0_45 : 0 ≤ wayMany_0 ∧ wayMany_0 ≤ 30) (kz_0_49 : (-1) ≤ onlyPiece_0 ∧ onlyPiece_0 ≤ 79) (kz_0_125 : 0 ≤ rowMany_0 ∧ rowMany_0 ≤ 100) (ex2 : gx = 0 + (1 * x6 + 0)) (ex3 : (-2) ≤ gx ∧ gx ≤ 26) : BC1 (pn_0) (wayMany_0) (drawnNode_0) (way_0) (bestWay_0) (x14) (x15) := by
  first
    | exact bc_step ‹BC1 _ _ _ _ _ _ _› (by omega) (by assumption) (by omega) (by assumption) (by omega)
    | exact ⟨‹WYM _ _ _ _›, by omega, fun t a b => by exfalso; omega⟩
    | exact ⟨wyg_of ‹DEM _ _ _ _ _› ‹SHP _ _ _ _ _ _ _ _ _ _ _ _ _ _› (by omega) (by omega) (by omega) (by omega) (by omega), by omega, fun t a b => by exfalso; omega⟩
set_option maxHeartbeats 4000000 in
theorem vc_Mo_stOrder_32_10 (x1 : Int) (x2 : Int) (x3 : Int) (x5 : Int) (x6 : Int) (x8 : Int) (x10 : Int) (x11 : Int) (x12 : Int) (x14 : Int) (x15 : Int) (wayMany_0 : Int) (bestWay_0 : Int → Int) (way_0 : Int → Int) (pt_0 : Int → Int) (ph_0 : Int → Int) (pn_0 : Int) (pm_0 : Int) (alive_0 : Int → Int) (row_0 : Int → Int) (rowMany_0 : Int) (onlyPiece_0 : Int) (drawnNode_0 : Int → Int) (drawnEdge_0 : Int → Int) (pieceOf_0 : Int → Int) (gx : Int) (k1 : 1 ≤ x1 ∧ x1 ≤ 30) (k2 : 0 ≤ x2 ∧ x2 ≤ 24) (k3 : 0 ≤ x3 ∧ x3 ≤ 24) (k5 : 0 ≤ x5 ∧ x5 ≤ 29) (k6 : (-2) ≤ x6 ∧ x6 ≤ 26) (k8 : 0 ≤ x8 ∧ x8 ≤ 24) (k10 : 0 ≤ x10 ∧ x10 ≤ 24) (k11 : 0 ≤ x11 ∧ x11 ≤ 23) (k12 : 1 ≤ x12 ∧ x12 ≤ 24) (k14 : 0 ≤ x14 ∧ x14 ≤ 30) (k15 : 0 ≤ x15 ∧ x15 ≤ 0) (d0 : x12 + (-4294967296) ≤ x11 ∧ x11 ≤ x12 + (-1)) (d1 : x1 + (-4294967296) ≤ x5 ∧ x5 ≤ x1 + (-1)) (d2 : x1 + (-4294967296) ≤ x5 ∧ x5 ≤ x1 + 0) (g0 : x14 = wayMany_0) (f1 : x11 < x12) (h2 : x12 = bestWay_0 (x5)) (h4 : x11 = way_0 (x5)) (f6 : x5 < x1) (f7 : x8 ≠ x10) (h8 : x10 = bestWay_0 (x5)) (h9 : x8 = way_0 (x5)) (f10 : x5 < x1) (f11 : GOK (pn_0) (pm_0) (pt_0) (ph_0)) (f12 : STB (pn_0) (pm_0) (pt_0) (ph_0) (alive_0)) (f13 : STR (pn_0) (rowMany_0) (pt_0) (ph_0) (row_0)) (f14 : onlyPiece_0 = (-1)) (f15 : (-1) * rowMany_0 + ((-1) * x6 + 0) ≤ (-26)) (f16 : DRR (pn_0) (rowMany_0) (drawnNode_0) (row_0)) (f17 : DEM (pm_0) (pt_0) (ph_0) (drawnNode_0) (drawnEdge_0)) (f18 : UA (pm_0) (alive_0) (drawnEdge_0)) (f19 : (rowMany_0 + 1) ≤ pn_0) (f20 : SB1 (pn_0) (pm_0) (onlyPiece_0) (pt_0) (ph_0) (drawnEdge_0) (pieceOf_0) (drawnNode_0) (bestWay_0) (x1) (x2) (x3)) (f21 : WYM (pn_0) (wayMany_0) (drawnNode_0) (way_0)) (f22 : 1 * x2 + ((-1) * pn_0 + 0) ≤ (-1)) (f23 : 1 * x3 + ((-1) * pn_0 + 0) ≤ (-1)) (f24 : drawnNode_0 (x2) ≠ 0) (f25 : x1 = wayMany_0) (hK_0_33 : ∀ j : Int, 0 ≤ j → j < 80 → 0 ≤ pt_0 j ∧ pt_0 j ≤ 24) (hK_0_34 : ∀ j : Int, 0 ≤ j → j < 80 → 0 ≤ ph_0 j ∧ ph_0 j ≤ 24) (hK_0_35 : ∀ j : Int, 0 ≤ j → j < 80 → 0 ≤ alive_0 j ∧ alive_0 j ≤ 1) (hK_0_42 : ∀ j : Int, 0 ≤ j → j < 26 → 0 ≤ drawnNode_0 j ∧ drawnNode_0 j ≤ 1) (hK_0_43 : ∀ j : Int, 0 ≤ j → j < 80 → 0 ≤ drawnEdge_0 j ∧ drawnEdge_0 j ≤ 1) (hK_0_44 : ∀ j : Int, 0 ≤ j → j < 80 → (-1) ≤ pieceOf_0 j ∧ pieceOf_0 j ≤ 79) (hK_0_46 : ∀ j : Int, 0 ≤ j → j < 30 → 0 ≤ way_0 j ∧ way_0 j ≤ 24) (hK_0_52 : ∀ j : Int, 0 ≤ j → j < 30 → 0 ≤ bestWay_0 j ∧ bestWay_0 j ≤ 24) (hK_0_117 : ∀ j : Int, 0 ≤ j → j < 100 → 0 ≤ row_0 j ∧ row_0 j ≤ 75) (kz_0_31 : 0 ≤ pn_0 ∧ pn_0 ≤ 25) (kz_0_32 : 0 ≤ pm_0 ∧ pm_0 ≤ 80) (kz_0_45 : 0 ≤ wayMany_0 ∧ wayMany_0 ≤ 30) (kz_0_49 : (-1) ≤ onlyPiece_0 ∧ onlyPiece_0 ≤ 79) (kz_0_125 : 0 ≤ rowMany_0 ∧ rowMany_0 ≤ 100) (ex2 : gx = 0 + (1 * x6 + 0)) (ex3 : (-2) ≤ gx ∧ gx ≤ 26) : 1 * x2 + ((-1) * pn_0 + 0) ≤ (-1) := by
  first
    | omega
    | (have h := ‹STB _ _ _ _ _›.1.2.2; omega)
    | (have h := ‹STR _ _ _ _ _›.1; omega)
    | (have h := ‹STR _ _ _ _ _›.1
       have w := ‹STR _ _ _ _ _›.2.1 x1 (by omega) (by omega)
       omega)
    | (have h := bc_len ‹BC1 _ _ _ _ _ _ _›
       have h2 := ‹STR _ _ _ _ _›.1
       omega)
    | (have h := (sb_way ‹SB1 _ _ _ _ _ _ _ _ _ _ _ _› (by omega)).1
       have h2 := ‹STR _ _ _ _ _›.1
       omega)
    | (have h := ‹WYM _ _ _ _›.1
       have h2 := ‹STR _ _ _ _ _›.1
       omega)
set_option maxHeartbeats 4000000 in
theorem vc_Mo_stOrder_32_11 (x1 : Int) (x2 : Int) (x3 : Int) (x5 : Int) (x6 : Int) (x8 : Int) (x10 : Int) (x11 : Int) (x12 : Int) (x14 : Int) (x15 : Int) (wayMany_0 : Int) (bestWay_0 : Int → Int) (way_0 : Int → Int) (pt_0 : Int → Int) (ph_0 : Int → Int) (pn_0 : Int) (pm_0 : Int) (alive_0 : Int → Int) (row_0 : Int → Int) (rowMany_0 : Int) (onlyPiece_0 : Int) (drawnNode_0 : Int → Int) (drawnEdge_0 : Int → Int) (pieceOf_0 : Int → Int) (gx : Int) (k1 : 1 ≤ x1 ∧ x1 ≤ 30) (k2 : 0 ≤ x2 ∧ x2 ≤ 24) (k3 : 0 ≤ x3 ∧ x3 ≤ 24) (k5 : 0 ≤ x5 ∧ x5 ≤ 29) (k6 : (-2) ≤ x6 ∧ x6 ≤ 26) (k8 : 0 ≤ x8 ∧ x8 ≤ 24) (k10 : 0 ≤ x10 ∧ x10 ≤ 24) (k11 : 0 ≤ x11 ∧ x11 ≤ 23) (k12 : 1 ≤ x12 ∧ x12 ≤ 24) (k14 : 0 ≤ x14 ∧ x14 ≤ 30) (k15 : 0 ≤ x15 ∧ x15 ≤ 0) (d0 : x12 + (-4294967296) ≤ x11 ∧ x11 ≤ x12 + (-1)) (d1 : x1 + (-4294967296) ≤ x5 ∧ x5 ≤ x1 + (-1)) (d2 : x1 + (-4294967296) ≤ x5 ∧ x5 ≤ x1 + 0) (g0 : x14 = wayMany_0) (f1 : x11 < x12) (h2 : x12 = bestWay_0 (x5)) (h4 : x11 = way_0 (x5)) (f6 : x5 < x1) (f7 : x8 ≠ x10) (h8 : x10 = bestWay_0 (x5)) (h9 : x8 = way_0 (x5)) (f10 : x5 < x1) (f11 : GOK (pn_0) (pm_0) (pt_0) (ph_0)) (f12 : STB (pn_0) (pm_0) (pt_0) (ph_0) (alive_0)) (f13 : STR (pn_0) (rowMany_0) (pt_0) (ph_0) (row_0)) (f14 : onlyPiece_0 = (-1)) (f15 : (-1) * rowMany_0 + ((-1) * x6 + 0) ≤ (-26)) (f16 : DRR (pn_0) (rowMany_0) (drawnNode_0) (row_0)) (f17 : DEM (pm_0) (pt_0) (ph_0) (drawnNode_0) (drawnEdge_0)) (f18 : UA (pm_0) (alive_0) (drawnEdge_0)) (f19 : (rowMany_0 + 1) ≤ pn_0) (f20 : SB1 (pn_0) (pm_0) (onlyPiece_0) (pt_0) (ph_0) (drawnEdge_0) (pieceOf_0) (drawnNode_0) (bestWay_0) (x1) (x2) (x3)) (f21 : WYM (pn_0) (wayMany_0) (drawnNode_0) (way_0)) (f22 : 1 * x2 + ((-1) * pn_0 + 0) ≤ (-1)) (f23 : 1 * x3 + ((-1) * pn_0 + 0) ≤ (-1)) (f24 : drawnNode_0 (x2) ≠ 0) (f25 : x1 = wayMany_0) (hK_0_33 : ∀ j : Int, 0 ≤ j → j < 80 → 0 ≤ pt_0 j ∧ pt_0 j ≤ 24) (hK_0_34 : ∀ j : Int, 0 ≤ j → j < 80 → 0 ≤ ph_0 j ∧ ph_0 j ≤ 24) (hK_0_35 : ∀ j : Int, 0 ≤ j → j < 80 → 0 ≤ alive_0 j ∧ alive_0 j ≤ 1) (hK_0_42 : ∀ j : Int, 0 ≤ j → j < 26 → 0 ≤ drawnNode_0 j ∧ drawnNode_0 j ≤ 1) (hK_0_43 : ∀ j : Int, 0 ≤ j → j < 80 → 0 ≤ drawnEdge_0 j ∧ drawnEdge_0 j ≤ 1) (hK_0_44 : ∀ j : Int, 0 ≤ j → j < 80 → (-1) ≤ pieceOf_0 j ∧ pieceOf_0 j ≤ 79) (hK_0_46 : ∀ j : Int, 0 ≤ j → j < 30 → 0 ≤ way_0 j ∧ way_0 j ≤ 24) (hK_0_52 : ∀ j : Int, 0 ≤ j → j < 30 → 0 ≤ bestWay_0 j ∧ bestWay_0 j ≤ 24) (hK_0_117 : ∀ j : Int, 0 ≤ j → j < 100 → 0 ≤ row_0 j ∧ row_0 j ≤ 75) (kz_0_31 : 0 ≤ pn_0 ∧ pn_0 ≤ 25) (kz_0_32 : 0 ≤ pm_0 ∧ pm_0 ≤ 80) (kz_0_45 : 0 ≤ wayMany_0 ∧ wayMany_0 ≤ 30) (kz_0_49 : (-1) ≤ onlyPiece_0 ∧ onlyPiece_0 ≤ 79) (kz_0_125 : 0 ≤ rowMany_0 ∧ rowMany_0 ≤ 100) (ex2 : gx = 0 + (1 * x6 + 0)) (ex3 : (-2) ≤ gx ∧ gx ≤ 26) : 1 * x3 + ((-1) * pn_0 + 0) ≤ (-1) := by
  first
    | omega
    | (have h := ‹STB _ _ _ _ _›.1.2.2; omega)
    | (have h := ‹STR _ _ _ _ _›.1; omega)
    | (have h := ‹STR _ _ _ _ _›.1
       have w := ‹STR _ _ _ _ _›.2.1 x1 (by omega) (by omega)
       omega)
    | (have h := bc_len ‹BC1 _ _ _ _ _ _ _›
       have h2 := ‹STR _ _ _ _ _›.1
       omega)
    | (have h := (sb_way ‹SB1 _ _ _ _ _ _ _ _ _ _ _ _› (by omega)).1
       have h2 := ‹STR _ _ _ _ _›.1
       omega)
    | (have h := ‹WYM _ _ _ _›.1
       have h2 := ‹STR _ _ _ _ _›.1
       omega)
set_option maxHeartbeats 4000000 in
theorem vc_Mo_stOrder_32_12 (x1 : Int) (x2 : Int) (x3 : Int) (x5 : Int) (x6 : Int) (x8 : Int) (x10 : Int) (x11 : Int) (x12 : Int) (x14 : Int) (x15 : Int) (wayMany_0 : Int) (bestWay_0 : Int → Int) (way_0 : Int → Int) (pt_0 : Int → Int) (ph_0 : Int → Int) (pn_0 : Int) (pm_0 : Int) (alive_0 : Int → Int) (row_0 : Int → Int) (rowMany_0 : Int) (onlyPiece_0 : Int) (drawnNode_0 : Int → Int) (drawnEdge_0 : Int → Int) (pieceOf_0 : Int → Int) (gx : Int) (k1 : 1 ≤ x1 ∧ x1 ≤ 30) (k2 : 0 ≤ x2 ∧ x2 ≤ 24) (k3 : 0 ≤ x3 ∧ x3 ≤ 24) (k5 : 0 ≤ x5 ∧ x5 ≤ 29) (k6 : (-2) ≤ x6 ∧ x6 ≤ 26) (k8 : 0 ≤ x8 ∧ x8 ≤ 24) (k10 : 0 ≤ x10 ∧ x10 ≤ 24) (k11 : 0 ≤ x11 ∧ x11 ≤ 23) (k12 : 1 ≤ x12 ∧ x12 ≤ 24) (k14 : 0 ≤ x14 ∧ x14 ≤ 30) (k15 : 0 ≤ x15 ∧ x15 ≤ 0) (d0 : x12 + (-4294967296) ≤ x11 ∧ x11 ≤ x12 + (-1)) (d1 : x1 + (-4294967296) ≤ x5 ∧ x5 ≤ x1 + (-1)) (d2 : x1 + (-4294967296) ≤ x5 ∧ x5 ≤ x1 + 0) (g0 : x14 = wayMany_0) (f1 : x11 < x12) (h2 : x12 = bestWay_0 (x5)) (h4 : x11 = way_0 (x5)) (f6 : x5 < x1) (f7 : x8 ≠ x10) (h8 : x10 = bestWay_0 (x5)) (h9 : x8 = way_0 (x5)) (f10 : x5 < x1) (f11 : GOK (pn_0) (pm_0) (pt_0) (ph_0)) (f12 : STB (pn_0) (pm_0) (pt_0) (ph_0) (alive_0)) (f13 : STR (pn_0) (rowMany_0) (pt_0) (ph_0) (row_0)) (f14 : onlyPiece_0 = (-1)) (f15 : (-1) * rowMany_0 + ((-1) * x6 + 0) ≤ (-26)) (f16 : DRR (pn_0) (rowMany_0) (drawnNode_0) (row_0)) (f17 : DEM (pm_0) (pt_0) (ph_0) (drawnNode_0) (drawnEdge_0)) (f18 : UA (pm_0) (alive_0) (drawnEdge_0)) (f19 : (rowMany_0 + 1) ≤ pn_0) (f20 : SB1 (pn_0) (pm_0) (onlyPiece_0) (pt_0) (ph_0) (drawnEdge_0) (pieceOf_0) (drawnNode_0) (bestWay_0) (x1) (x2) (x3)) (f21 : WYM (pn_0) (wayMany_0) (drawnNode_0) (way_0)) (f22 : 1 * x2 + ((-1) * pn_0 + 0) ≤ (-1)) (f23 : 1 * x3 + ((-1) * pn_0 + 0) ≤ (-1)) (f24 : drawnNode_0 (x2) ≠ 0) (f25 : x1 = wayMany_0) (hK_0_33 : ∀ j : Int, 0 ≤ j → j < 80 → 0 ≤ pt_0 j ∧ pt_0 j ≤ 24) (hK_0_34 : ∀ j : Int, 0 ≤ j → j < 80 → 0 ≤ ph_0 j ∧ ph_0 j ≤ 24) (hK_0_35 : ∀ j : Int, 0 ≤ j → j < 80 → 0 ≤ alive_0 j ∧ alive_0 j ≤ 1) (hK_0_42 : ∀ j : Int, 0 ≤ j → j < 26 → 0 ≤ drawnNode_0 j ∧ drawnNode_0 j ≤ 1) (hK_0_43 : ∀ j : Int, 0 ≤ j → j < 80 → 0 ≤ drawnEdge_0 j ∧ drawnEdge_0 j ≤ 1) (hK_0_44 : ∀ j : Int, 0 ≤ j → j < 80 → (-1) ≤ pieceOf_0 j ∧ pieceOf_0 j ≤ 79) (hK_0_46 : ∀ j : Int, 0 ≤ j → j < 30 → 0 ≤ way_0 j ∧ way_0 j ≤ 24) (hK_0_52 : ∀ j : Int, 0 ≤ j → j < 30 → 0 ≤ bestWay_0 j ∧ bestWay_0 j ≤ 24) (hK_0_117 : ∀ j : Int, 0 ≤ j → j < 100 → 0 ≤ row_0 j ∧ row_0 j ≤ 75) (kz_0_31 : 0 ≤ pn_0 ∧ pn_0 ≤ 25) (kz_0_32 : 0 ≤ pm_0 ∧ pm_0 ≤ 80) (kz_0_45 : 0 ≤ wayMany_0 ∧ wayMany_0 ≤ 30) (kz_0_49 : (-1) ≤ onlyPiece_0 ∧ onlyPiece_0 ≤ 79) (kz_0_125 : 0 ≤ rowMany_0 ∧ rowMany_0 ≤ 100) (ex2 : gx = 0 + (1 * x6 + 0)) (ex3 : (-2) ≤ gx ∧ gx ≤ 26) : drawnNode_0 (x2) ≠ 0 := by
  first
    | omega
    | (have h := ‹STB _ _ _ _ _›.1.2.2; omega)
    | (have h := ‹STR _ _ _ _ _›.1; omega)
    | (have h := ‹STR _ _ _ _ _›.1
       have w := ‹STR _ _ _ _ _›.2.1 x1 (by omega) (by omega)
       omega)
    | (have h := bc_len ‹BC1 _ _ _ _ _ _ _›
       have h2 := ‹STR _ _ _ _ _›.1
       omega)
    | (have h := (sb_way ‹SB1 _ _ _ _ _ _ _ _ _ _ _ _› (by omega)).1
       have h2 := ‹STR _ _ _ _ _›.1
       omega)
    | (have h := ‹WYM _ _ _ _›.1
       have h2 := ‹STR _ _ _ _ _›.1
       omega)
def o_Mo_stOrder_32 : or_T := (328, 16, [(0, (2, 0, 0, [165])), (1, (0, 1, 30, [])), (2, (0, 0, 24, [])), (3, (0, 0, 24, [])), (5, (0, 0, 29, [])), (6, (0, -2, 26, [])), (7, (2, 0, 0, [191])), (8, (0, 0, 24, [])), (9, (2, 0, 0, [195])), (10, (0, 0, 24, [])), (11, (0, 0, 23, [])), (12, (0, 1, 24, [])), (14, (0, 0, 30, [])), (15, (0, 0, 0, []))], [(9, [14, 0], [45]), (7, [11, 12], [2]), (10, [12, 9, 5], []), (9, [9, 0], [52]), (10, [11, 7, 5], []), (9, [7, 0], [46]), (7, [5, 1], [2]), (7, [8, 10], [1]), (10, [10, 9, 5], []), (10, [8, 7, 5], []), (7, [5, 1], [2]), (20, [0], [60, 2, 2, 75, 31, 32, 33, 34]), (20, [0], [60, 2, 3, 297, 31, 32, 33, 34, 35]), (20, [0], [60, 2, 3, 298, 31, 125, 33, 34, 117]), (20, [0], [50, 1, 0, 49, 1, 3, 2, 0, 49, 0, -1]), (20, [0, 6], [30, -26, -1, 1, 125, -1, 0, 0]), (20, [0], [60, 2, 2, 301, 31, 125, 42, 117]), (20, [0], [60, 1, 4, 303, 32, 33, 34, 42, 43]), (20, [0], [60, 1, 2, 122, 32, 35, 43]), (20, [0], [50, 2, 0, 125, 31, 0, 7, 4, 3, 2, 0, 125, 0, 1, 2, 0, 31]), (20, [0, 1, 2, 3], [60, 3, 6, 306, 31, 32, 49, 33, 34, 43, 44, 42, 52]), (20, [0], [60, 2, 2, 304, 31, 45, 42, 46]), (20, [2, 0], [30, -1, 1, 0, 0, -1, 1, 31]), (20, [3, 0], [30, -1, 1, 0, 0, -1, 1, 31]), (20, [0, 2], [50, 0, 1, 42, 7, 5, 3, 0, 42, 1, 1, 0, 0]), (20, [1, 0], [50, 1, 0, 1045, 1, 2, 1, 0, 2, 1, 45])], [], [(0, -2, 26, [])], [(20, [0], [60, 2, 2, 75, 31, 32, 33, 34]), (20, [0], [60, 2, 3, 297, 31, 32, 33, 34, 35]), (20, [0], [60, 2, 3, 298, 31, 125, 33, 34, 117]), (20, [0], [50, 1, 0, 49, 1, 3, 2, 0, 49, 0, -1]), (20, [0, 16], [30, -26, -1, 1, 125, -1, 0, 0]), (20, [0], [60, 2, 2, 301, 31, 125, 42, 117]), (20, [0], [60, 1, 4, 303, 32, 33, 34, 42, 43]), (20, [0], [60, 1, 2, 122, 32, 35, 43]), (20, [0], [50, 2, 0, 125, 31, 0, 7, 4, 3, 2, 0, 125, 0, 1, 2, 0, 31]), (20, [0, 14, 15], [60, 2, 3, 307, 31, 45, 42, 46, 52]), (20, [2, 0], [30, -1, 1, 0, 0, -1, 1, 31]), (20, [3, 0], [30, -1, 1, 0, 0, -1, 1, 31]), (20, [0, 2], [50, 0, 1, 42, 7, 5, 3, 0, 42, 1, 1, 0, 0])], [(16, 6, 0, 0)], [(11, 12, -4294967296, -1), (5, 1, -4294967296, -1), (5, 1, -4294967296, 0)])
theorem oo_Mo_stOrder_32 {kA : Nat → ClassId} : or_ok PRD kA GG o_Mo_stOrder_32 := by
  refine or_mk fun A ta ws vs hD hth hl => ?_
  intro t0 r0 t1 k1 t2 k2 t3 k3 t5 k5 t6 k6 t7 r7 t8 k8 t9 r9 t10 k10 t11 k11 t12 k12 t14 k14 t15 k15 d0 d1 d2 f0 f1 f2 f3 f4 f5 f6 f7 f8 f9 f10 f11 f12 f13 f14 f15 f16 f17 f18 f19 f20 f21 f22 f23 f24 f25
  replace f0 := shm_741 f0
  replace f1 := shm_6 f1
  replace f2 := shm_107 f2
  replace f3 := shm_993 f3
  replace f4 := shm_107 f4
  replace f5 := shm_737 f5
  replace f6 := shm_6 f6
  replace f7 := shm_40 f7
  replace f8 := shm_107 f8
  replace f9 := shm_107 f9
  replace f10 := shm_6 f10
  replace f11 := shm_575 f11
  replace f12 := shm_1749 f12
  replace f13 := shm_1001 f13
  replace f14 := shm_1675 f14
  replace f15 := shm_1750 f15
  replace f16 := shm_1755 f16
  replace f17 := shm_1757 f17
  replace f18 := shm_1455 f18
  replace f19 := shm_1752 f19
  replace f20 := shm_1761 f20
  replace f21 := shm_1764 f21
  replace f22 := shm_553 f22
  replace f23 := shm_553 f23
  replace f24 := shm_1762 f24
  replace f25 := shm_1765 f25
  have cr_0_33 := fdq_117 hD hth r0
  have cr_0_34 := fdq_118 hD hth r0
  have cr_0_35 := fdq_132 hD hth r0
  have cr_0_42 := fdq_136 hD hth r0
  have cr_0_43 := fdq_137 hD hth r0
  have cr_0_44 := fdq_138 hD hth r0
  have cr_0_46 := fdq_190 hD hth r0
  have cr_0_52 := fdq_236 hD hth r0
  have cr_0_117 := fdq_181 hD hth r0
  have ad_9 : v_ad (n_v vs 9) = w_ar ws (n_v vs 0) 52 := congrArg v_ad f3
  have ad_7 : v_ad (n_v vs 7) = w_ar ws (n_v vs 0) 46 := congrArg v_ad f5
  have g0 : v_iv (n_v vs 14) = w_fi ws (n_v vs 0) 45 := congrArg v_iv f0
  simp only [ad_9] at f2
  have h2 : v_iv (n_v vs 12) = w_ei ws (w_ar ws (n_v vs 0) 52) (v_iv (n_v vs 5)) := f2
  simp only [ad_7] at f4
  have h4 : v_iv (n_v vs 11) = w_ei ws (w_ar ws (n_v vs 0) 46) (v_iv (n_v vs 5)) := f4
  simp only [ad_9] at f8
  have h8 : v_iv (n_v vs 10) = w_ei ws (w_ar ws (n_v vs 0) 52) (v_iv (n_v vs 5)) := f8
  simp only [ad_7] at f9
  have h9 : v_iv (n_v vs 8) = w_ei ws (w_ar ws (n_v vs 0) 46) (v_iv (n_v vs 5)) := f9
  have hK_0_33 := elq_60 hD hth cr_0_33
  have hK_0_34 := elq_61 hD hth cr_0_34
  have hK_0_35 := elq_72 hD hth cr_0_35
  have hK_0_42 := elq_75 hD hth cr_0_42
  have hK_0_43 := elq_76 hD hth cr_0_43
  have hK_0_44 := elq_77 hD hth cr_0_44
  have hK_0_46 := elq_114 hD hth cr_0_46
  have hK_0_52 := elq_147 hD hth cr_0_52
  have hK_0_117 := elq_108 hD hth cr_0_117
  have kz_0_31 := fdq_145 hD hth r0
  have kz_0_32 := fdq_140 hD hth r0
  have kz_0_45 := fdq_191 hD hth r0
  have kz_0_49 := fdq_146 hD hth r0
  have kz_0_125 := fdq_182 hD hth r0
  obtain ⟨x, ex, hx⟩ := iv_ex (ta := ta) (lo := (-2)) (hi := 26) (z := 0 + (1 * v_iv (n_v vs 6) + 0)) (by omega) (by omega) (by omega) (by omega)
  have ex2 : v_iv (Value.int x) = 0 + (1 * v_iv (n_v vs 6) + 0) := ex
  have ex3 : (-2) ≤ v_iv (Value.int x) ∧ v_iv (Value.int x) ≤ 26 := tv_rng hx
  have e_0 : n_v (vs ++ [Value.int x]) 0 = n_v vs 0 := n_v_old (by rw [hl]; decide)
  have e_2 : n_v (vs ++ [Value.int x]) 2 = n_v vs 2 := n_v_old (by rw [hl]; decide)
  have e_3 : n_v (vs ++ [Value.int x]) 3 = n_v vs 3 := n_v_old (by rw [hl]; decide)
  have e_14 : n_v (vs ++ [Value.int x]) 14 = n_v vs 14 := n_v_old (by rw [hl]; decide)
  have e_15 : n_v (vs ++ [Value.int x]) 15 = n_v vs 15 := n_v_old (by rw [hl]; decide)
  have e_16 : n_v (vs ++ [Value.int x]) 16 = Value.int x := n_v_new hl
  have nf0 : fc_1 PRD (20, [0], [60, 2, 2, 75, 31, 32, 33, 34]) ws (vs ++ [Value.int x]) := by
    refine ⟨nf_inA hl rfl, sgq_575 ?_⟩
    · show GOK (w_fi ws (n_v (vs ++ [Value.int x]) 0) 31) (w_fi ws (n_v (vs ++ [Value.int x]) 0) 32) (w_ei ws (w_ar ws (n_v (vs ++ [Value.int x]) 0) 33)) (w_ei ws (w_ar ws (n_v (vs ++ [Value.int x]) 0) 34))
      rw [e_0]
      exact vc_Mo_stOrder_32_0 (v_iv (n_v vs 1)) (v_iv (n_v vs 2)) (v_iv (n_v vs 3)) (v_iv (n_v vs 5)) (v_iv (n_v vs 6)) (v_iv (n_v vs 8)) (v_iv (n_v vs 10)) (v_iv (n_v vs 11)) (v_iv (n_v vs 12)) (v_iv (n_v vs 14)) (v_iv (n_v vs 15)) (w_fi ws (n_v vs 0) 45) (w_ei ws (w_ar ws (n_v vs 0) 52)) (w_ei ws (w_ar ws (n_v vs 0) 46)) (w_ei ws (w_ar ws (n_v vs 0) 33)) (w_ei ws (w_ar ws (n_v vs 0) 34)) (w_fi ws (n_v vs 0) 31) (w_fi ws (n_v vs 0) 32) (w_ei ws (w_ar ws (n_v vs 0) 35)) (w_ei ws (w_ar ws (n_v vs 0) 117)) (w_fi ws (n_v vs 0) 125) (w_fi ws (n_v vs 0) 49) (w_ei ws (w_ar ws (n_v vs 0) 42)) (w_ei ws (w_ar ws (n_v vs 0) 43)) (w_ei ws (w_ar ws (n_v vs 0) 44)) (v_iv (Value.int x)) k1 k2 k3 k5 k6 k8 k10 k11 k12 k14 k15 d0 d1 d2 g0 f1 h2 h4 f6 f7 h8 h9 f10 f11 f12 f13 f14 f15 f16 f17 f18 f19 f20 f21 f22 f23 f24 f25 hK_0_33 hK_0_34 hK_0_35 hK_0_42 hK_0_43 hK_0_44 hK_0_46 hK_0_52 hK_0_117 kz_0_31 kz_0_32 kz_0_45 kz_0_49 kz_0_125 ex2 ex3
  have nf1 : fc_1 PRD (20, [0], [60, 2, 3, 297, 31, 32, 33, 34, 35]) ws (vs ++ [Value.int x]) := by
    refine ⟨nf_inA hl rfl, sgq_1749 ?_⟩
    · show STB (w_fi ws (n_v (vs ++ [Value.int x]) 0) 31) (w_fi ws (n_v (vs ++ [Value.int x]) 0) 32) (w_ei ws (w_ar ws (n_v (vs ++ [Value.int x]) 0) 33)) (w_ei ws (w_ar ws (n_v (vs ++ [Value.int x]) 0) 34)) (w_ei ws (w_ar ws (n_v (vs ++ [Value.int x]) 0) 35))
      rw [e_0]
      exact vc_Mo_stOrder_32_1 (v_iv (n_v vs 1)) (v_iv (n_v vs 2)) (v_iv (n_v vs 3)) (v_iv (n_v vs 5)) (v_iv (n_v vs 6)) (v_iv (n_v vs 8)) (v_iv (n_v vs 10)) (v_iv (n_v vs 11)) (v_iv (n_v vs 12)) (v_iv (n_v vs 14)) (v_iv (n_v vs 15)) (w_fi ws (n_v vs 0) 45) (w_ei ws (w_ar ws (n_v vs 0) 52)) (w_ei ws (w_ar ws (n_v vs 0) 46)) (w_ei ws (w_ar ws (n_v vs 0) 33)) (w_ei ws (w_ar ws (n_v vs 0) 34)) (w_fi ws (n_v vs 0) 31) (w_fi ws (n_v vs 0) 32) (w_ei ws (w_ar ws (n_v vs 0) 35)) (w_ei ws (w_ar ws (n_v vs 0) 117)) (w_fi ws (n_v vs 0) 125) (w_fi ws (n_v vs 0) 49) (w_ei ws (w_ar ws (n_v vs 0) 42)) (w_ei ws (w_ar ws (n_v vs 0) 43)) (w_ei ws (w_ar ws (n_v vs 0) 44)) (v_iv (Value.int x)) k1 k2 k3 k5 k6 k8 k10 k11 k12 k14 k15 d0 d1 d2 g0 f1 h2 h4 f6 f7 h8 h9 f10 f11 f12 f13 f14 f15 f16 f17 f18 f19 f20 f21 f22 f23 f24 f25 hK_0_33 hK_0_34 hK_0_35 hK_0_42 hK_0_43 hK_0_44 hK_0_46 hK_0_52 hK_0_117 kz_0_31 kz_0_32 kz_0_45 kz_0_49 kz_0_125 ex2 ex3
  have nf2 : fc_1 PRD (20, [0], [60, 2, 3, 298, 31, 125, 33, 34, 117]) ws (vs ++ [Value.int x]) := by
    refine ⟨nf_inA hl rfl, sgq_1001 ?_⟩
    · show STR (w_fi ws (n_v (vs ++ [Value.int x]) 0) 31) (w_fi ws (n_v (vs ++ [Value.int x]) 0) 125) (w_ei ws (w_ar ws (n_v (vs ++ [Value.int x]) 0) 33)) (w_ei ws (w_ar ws (n_v (vs ++ [Value.int x]) 0) 34)) (w_ei ws (w_ar ws (n_v (vs ++ [Value.int x]) 0) 117))
      rw [e_0]
      exact vc_Mo_stOrder_32_2 (v_iv (n_v vs 1)) (v_iv (n_v vs 2)) (v_iv (n_v vs 3)) (v_iv (n_v vs 5)) (v_iv (n_v vs 6)) (v_iv (n_v vs 8)) (v_iv (n_v vs 10)) (v_iv (n_v vs 11)) (v_iv (n_v vs 12)) (v_iv (n_v vs 14)) (v_iv (n_v vs 15)) (w_fi ws (n_v vs 0) 45) (w_ei ws (w_ar ws (n_v vs 0) 52)) (w_ei ws (w_ar ws (n_v vs 0) 46)) (w_ei ws (w_ar ws (n_v vs 0) 33)) (w_ei ws (w_ar ws (n_v vs 0) 34)) (w_fi ws (n_v vs 0) 31) (w_fi ws (n_v vs 0) 32) (w_ei ws (w_ar ws (n_v vs 0) 35)) (w_ei ws (w_ar ws (n_v vs 0) 117)) (w_fi ws (n_v vs 0) 125) (w_fi ws (n_v vs 0) 49) (w_ei ws (w_ar ws (n_v vs 0) 42)) (w_ei ws (w_ar ws (n_v vs 0) 43)) (w_ei ws (w_ar ws (n_v vs 0) 44)) (v_iv (Value.int x)) k1 k2 k3 k5 k6 k8 k10 k11 k12 k14 k15 d0 d1 d2 g0 f1 h2 h4 f6 f7 h8 h9 f10 f11 f12 f13 f14 f15 f16 f17 f18 f19 f20 f21 f22 f23 f24 f25 hK_0_33 hK_0_34 hK_0_35 hK_0_42 hK_0_43 hK_0_44 hK_0_46 hK_0_52 hK_0_117 kz_0_31 kz_0_32 kz_0_45 kz_0_49 kz_0_125 ex2 ex3
  have nf3 : fc_1 PRD (20, [0], [50, 1, 0, 49, 1, 3, 2, 0, 49, 0, -1]) ws (vs ++ [Value.int x]) := by
    refine ⟨nf_inA hl rfl, sgq_1675 ?_⟩
    · show w_fi ws (n_v (vs ++ [Value.int x]) 0) 49 = (-1)
      rw [e_0]
      exact vc_Mo_stOrder_32_3 (v_iv (n_v vs 1)) (v_iv (n_v vs 2)) (v_iv (n_v vs 3)) (v_iv (n_v vs 5)) (v_iv (n_v vs 6)) (v_iv (n_v vs 8)) (v_iv (n_v vs 10)) (v_iv (n_v vs 11)) (v_iv (n_v vs 12)) (v_iv (n_v vs 14)) (v_iv (n_v vs 15)) (w_fi ws (n_v vs 0) 45) (w_ei ws (w_ar ws (n_v vs 0) 52)) (w_ei ws (w_ar ws (n_v vs 0) 46)) (w_ei ws (w_ar ws (n_v vs 0) 33)) (w_ei ws (w_ar ws (n_v vs 0) 34)) (w_fi ws (n_v vs 0) 31) (w_fi ws (n_v vs 0) 32) (w_ei ws (w_ar ws (n_v vs 0) 35)) (w_ei ws (w_ar ws (n_v vs 0) 117)) (w_fi ws (n_v vs 0) 125) (w_fi ws (n_v vs 0) 49) (w_ei ws (w_ar ws (n_v vs 0) 42)) (w_ei ws (w_ar ws (n_v vs 0) 43)) (w_ei ws (w_ar ws (n_v vs 0) 44)) (v_iv (Value.int x)) k1 k2 k3 k5 k6 k8 k10 k11 k12 k14 k15 d0 d1 d2 g0 f1 h2 h4 f6 f7 h8 h9 f10 f11 f12 f13 f14 f15 f16 f17 f18 f19 f20 f21 f22 f23 f24 f25 hK_0_33 hK_0_34 hK_0_35 hK_0_42 hK_0_43 hK_0_44 hK_0_46 hK_0_52 hK_0_117 kz_0_31 kz_0_32 kz_0_45 kz_0_49 kz_0_125 ex2 ex3
  have nf4 : fc_1 PRD (20, [0, 16], [30, -26, -1, 1, 125, -1, 0, 0]) ws (vs ++ [Value.int x]) := by
    refine ⟨nf_inA hl rfl, sgq_1750 ?_⟩
    · show (-1) * w_fi ws (n_v (vs ++ [Value.int x]) 0) 125 + ((-1) * v_iv (n_v (vs ++ [Value.int x]) 16) + 0) ≤ (-26)
      simp only [e_0, e_16]
      exact vc_Mo_stOrder_32_4 (v_iv (n_v vs 1)) (v_iv (n_v vs 2)) (v_iv (n_v vs 3)) (v_iv (n_v vs 5)) (v_iv (n_v vs 6)) (v_iv (n_v vs 8)) (v_iv (n_v vs 10)) (v_iv (n_v vs 11)) (v_iv (n_v vs 12)) (v_iv (n_v vs 14)) (v_iv (n_v vs 15)) (w_fi ws (n_v vs 0) 45) (w_ei ws (w_ar ws (n_v vs 0) 52)) (w_ei ws (w_ar ws (n_v vs 0) 46)) (w_ei ws (w_ar ws (n_v vs 0) 33)) (w_ei ws (w_ar ws (n_v vs 0) 34)) (w_fi ws (n_v vs 0) 31) (w_fi ws (n_v vs 0) 32) (w_ei ws (w_ar ws (n_v vs 0) 35)) (w_ei ws (w_ar ws (n_v vs 0) 117)) (w_fi ws (n_v vs 0) 125) (w_fi ws (n_v vs 0) 49) (w_ei ws (w_ar ws (n_v vs 0) 42)) (w_ei ws (w_ar ws (n_v vs 0) 43)) (w_ei ws (w_ar ws (n_v vs 0) 44)) (v_iv (Value.int x)) k1 k2 k3 k5 k6 k8 k10 k11 k12 k14 k15 d0 d1 d2 g0 f1 h2 h4 f6 f7 h8 h9 f10 f11 f12 f13 f14 f15 f16 f17 f18 f19 f20 f21 f22 f23 f24 f25 hK_0_33 hK_0_34 hK_0_35 hK_0_42 hK_0_43 hK_0_44 hK_0_46 hK_0_52 hK_0_117 kz_0_31 kz_0_32 kz_0_45 kz_0_49 kz_0_125 ex2 ex3
  have nf5 : fc_1 PRD (20, [0], [60, 2, 2, 301, 31, 125, 42, 117]) ws (vs ++ [Value.int x]) := by
    refine ⟨nf_inA hl rfl, sgq_1755 ?_⟩
    · show DRR (w_fi ws (n_v (vs ++ [Value.int x]) 0) 31) (w_fi ws (n_v (vs ++ [Value.int x]) 0) 125) (w_ei ws (w_ar ws (n_v (vs ++ [Value.int x]) 0) 42)) (w_ei ws (w_ar ws (n_v (vs ++ [Value.int x]) 0) 117))
      rw [e_0]
      exact vc_Mo_stOrder_32_5 (v_iv (n_v vs 1)) (v_iv (n_v vs 2)) (v_iv (n_v vs 3)) (v_iv (n_v vs 5)) (v_iv (n_v vs 6)) (v_iv (n_v vs 8)) (v_iv (n_v vs 10)) (v_iv (n_v vs 11)) (v_iv (n_v vs 12)) (v_iv (n_v vs 14)) (v_iv (n_v vs 15)) (w_fi ws (n_v vs 0) 45) (w_ei ws (w_ar ws (n_v vs 0) 52)) (w_ei ws (w_ar ws (n_v vs 0) 46)) (w_ei ws (w_ar ws (n_v vs 0) 33)) (w_ei ws (w_ar ws (n_v vs 0) 34)) (w_fi ws (n_v vs 0) 31) (w_fi ws (n_v vs 0) 32) (w_ei ws (w_ar ws (n_v vs 0) 35)) (w_ei ws (w_ar ws (n_v vs 0) 117)) (w_fi ws (n_v vs 0) 125) (w_fi ws (n_v vs 0) 49) (w_ei ws (w_ar ws (n_v vs 0) 42)) (w_ei ws (w_ar ws (n_v vs 0) 43)) (w_ei ws (w_ar ws (n_v vs 0) 44)) (v_iv (Value.int x)) k1 k2 k3 k5 k6 k8 k10 k11 k12 k14 k15 d0 d1 d2 g0 f1 h2 h4 f6 f7 h8 h9 f10 f11 f12 f13 f14 f15 f16 f17 f18 f19 f20 f21 f22 f23 f24 f25 hK_0_33 hK_0_34 hK_0_35 hK_0_42 hK_0_43 hK_0_44 hK_0_46 hK_0_52 hK_0_117 kz_0_31 kz_0_32 kz_0_45 kz_0_49 kz_0_125 ex2 ex3
  have nf6 : fc_1 PRD (20, [0], [60, 1, 4, 303, 32, 33, 34, 42, 43]) ws (vs ++ [Value.int x]) := by
    refine ⟨nf_inA hl rfl, sgq_1757 ?_⟩
    · show DEM (w_fi ws (n_v (vs ++ [Value.int x]) 0) 32) (w_ei ws (w_ar ws (n_v (vs ++ [Value.int x]) 0) 33)) (w_ei ws (w_ar ws (n_v (vs ++ [Value.int x]) 0) 34)) (w_ei ws (w_ar ws (n_v (vs ++ [Value.int x]) 0) 42)) (w_ei ws (w_ar ws (n_v (vs ++ [Value.int x]) 0) 43))
      rw [e_0]
      exact vc_Mo_stOrder_32_6 (v_iv (n_v vs 1)) (v_iv (n_v vs 2)) (v_iv (n_v vs 3)) (v_iv (n_v vs 5)) (v_iv (n_v vs 6)) (v_iv (n_v vs 8)) (v_iv (n_v vs 10)) (v_iv (n_v vs 11)) (v_iv (n_v vs 12)) (v_iv (n_v vs 14)) (v_iv (n_v vs 15)) (w_fi ws (n_v vs 0) 45) (w_ei ws (w_ar ws (n_v vs 0) 52)) (w_ei ws (w_ar ws (n_v vs 0) 46)) (w_ei ws (w_ar ws (n_v vs 0) 33)) (w_ei ws (w_ar ws (n_v vs 0) 34)) (w_fi ws (n_v vs 0) 31) (w_fi ws (n_v vs 0) 32) (w_ei ws (w_ar ws (n_v vs 0) 35)) (w_ei ws (w_ar ws (n_v vs 0) 117)) (w_fi ws (n_v vs 0) 125) (w_fi ws (n_v vs 0) 49) (w_ei ws (w_ar ws (n_v vs 0) 42)) (w_ei ws (w_ar ws (n_v vs 0) 43)) (w_ei ws (w_ar ws (n_v vs 0) 44)) (v_iv (Value.int x)) k1 k2 k3 k5 k6 k8 k10 k11 k12 k14 k15 d0 d1 d2 g0 f1 h2 h4 f6 f7 h8 h9 f10 f11 f12 f13 f14 f15 f16 f17 f18 f19 f20 f21 f22 f23 f24 f25 hK_0_33 hK_0_34 hK_0_35 hK_0_42 hK_0_43 hK_0_44 hK_0_46 hK_0_52 hK_0_117 kz_0_31 kz_0_32 kz_0_45 kz_0_49 kz_0_125 ex2 ex3
  have nf7 : fc_1 PRD (20, [0], [60, 1, 2, 122, 32, 35, 43]) ws (vs ++ [Value.int x]) := by
    refine ⟨nf_inA hl rfl, sgq_1455 ?_⟩
    · show UA (w_fi ws (n_v (vs ++ [Value.int x]) 0) 32) (w_ei ws (w_ar ws (n_v (vs ++ [Value.int x]) 0) 35)) (w_ei ws (w_ar ws (n_v (vs ++ [Value.int x]) 0) 43))
      rw [e_0]
      exact vc_Mo_stOrder_32_7 (v_iv (n_v vs 1)) (v_iv (n_v vs 2)) (v_iv (n_v vs 3)) (v_iv (n_v vs 5)) (v_iv (n_v vs 6)) (v_iv (n_v vs 8)) (v_iv (n_v vs 10)) (v_iv (n_v vs 11)) (v_iv (n_v vs 12)) (v_iv (n_v vs 14)) (v_iv (n_v vs 15)) (w_fi ws (n_v vs 0) 45) (w_ei ws (w_ar ws (n_v vs 0) 52)) (w_ei ws (w_ar ws (n_v vs 0) 46)) (w_ei ws (w_ar ws (n_v vs 0) 33)) (w_ei ws (w_ar ws (n_v vs 0) 34)) (w_fi ws (n_v vs 0) 31) (w_fi ws (n_v vs 0) 32) (w_ei ws (w_ar ws (n_v vs 0) 35)) (w_ei ws (w_ar ws (n_v vs 0) 117)) (w_fi ws (n_v vs 0) 125) (w_fi ws (n_v vs 0) 49) (w_ei ws (w_ar ws (n_v vs 0) 42)) (w_ei ws (w_ar ws (n_v vs 0) 43)) (w_ei ws (w_ar ws (n_v vs 0) 44)) (v_iv (Value.int x)) k1 k2 k3 k5 k6 k8 k10 k11 k12 k14 k15 d0 d1 d2 g0 f1 h2 h4 f6 f7 h8 h9 f10 f11 f12 f13 f14 f15 f16 f17 f18 f19 f20 f21 f22 f23 f24 f25 hK_0_33 hK_0_34 hK_0_35 hK_0_42 hK_0_43 hK_0_44 hK_0_46 hK_0_52 hK_0_117 kz_0_31 kz_0_32 kz_0_45 kz_0_49 kz_0_125 ex2 ex3
  have nf8 : fc_1 PRD (20, [0], [50, 2, 0, 125, 31, 0, 7, 4, 3, 2, 0, 125, 0, 1, 2, 0, 31]) ws (vs ++ [Value.int x]) := by
    refine ⟨nf_inA hl rfl, sgq_1752 ?_⟩
    · show (w_fi ws (n_v (vs ++ [Value.int x]) 0) 125 + 1) ≤ w_fi ws (n_v (vs ++ [Value.int x]) 0) 31
      rw [e_0]
      exact vc_Mo_stOrder_32_8 (v_iv (n_v vs 1)) (v_iv (n_v vs 2)) (v_iv (n_v vs 3)) (v_iv (n_v vs 5)) (v_iv (n_v vs 6)) (v_iv (n_v vs 8)) (v_iv (n_v vs 10)) (v_iv (n_v vs 11)) (v_iv (n_v vs 12)) (v_iv (n_v vs 14)) (v_iv (n_v vs 15)) (w_fi ws (n_v vs 0) 45) (w_ei ws (w_ar ws (n_v vs 0) 52)) (w_ei ws (w_ar ws (n_v vs 0) 46)) (w_ei ws (w_ar ws (n_v vs 0) 33)) (w_ei ws (w_ar ws (n_v vs 0) 34)) (w_fi ws (n_v vs 0) 31) (w_fi ws (n_v vs 0) 32) (w_ei ws (w_ar ws (n_v vs 0) 35)) (w_ei ws (w_ar ws (n_v vs 0) 117)) (w_fi ws (n_v vs 0) 125) (w_fi ws (n_v vs 0) 49) (w_ei ws (w_ar ws (n_v vs 0) 42)) (w_ei ws (w_ar ws (n_v vs 0) 43)) (w_ei ws (w_ar ws (n_v vs 0) 44)) (v_iv (Value.int x)) k1 k2 k3 k5 k6 k8 k10 k11 k12 k14 k15 d0 d1 d2 g0 f1 h2 h4 f6 f7 h8 h9 f10 f11 f12 f13 f14 f15 f16 f17 f18 f19 f20 f21 f22 f23 f24 f25 hK_0_33 hK_0_34 hK_0_35 hK_0_42 hK_0_43 hK_0_44 hK_0_46 hK_0_52 hK_0_117 kz_0_31 kz_0_32 kz_0_45 kz_0_49 kz_0_125 ex2 ex3
  have nf9 : fc_1 PRD (20, [0, 14, 15], [60, 2, 3, 307, 31, 45, 42, 46, 52]) ws (vs ++ [Value.int x]) := by
    refine ⟨nf_inA hl rfl, sgq_1763 ?_⟩
    · show BC1 (w_fi ws (n_v (vs ++ [Value.int x]) 0) 31) (w_fi ws (n_v (vs ++ [Value.int x]) 0) 45) (w_ei ws (w_ar ws (n_v (vs ++ [Value.int x]) 0) 42)) (w_ei ws (w_ar ws (n_v (vs ++ [Value.int x]) 0) 46)) (w_ei ws (w_ar ws (n_v (vs ++ [Value.int x]) 0) 52)) (v_iv (n_v (vs ++ [Value.int x]) 14)) (v_iv (n_v (vs ++ [Value.int x]) 15))
      simp only [e_0, e_14, e_15]
      exact vc_Mo_stOrder_32_9 (v_iv (n_v vs 1)) (v_iv (n_v vs 2)) (v_iv (n_v vs 3)) (v_iv (n_v vs 5)) (v_iv (n_v vs 6)) (v_iv (n_v vs 8)) (v_iv (n_v vs 10)) (v_iv (n_v vs 11)) (v_iv (n_v vs 12)) (v_iv (n_v vs 14)) (v_iv (n_v vs 15)) (w_fi ws (n_v vs 0) 45) (w_ei ws (w_ar ws (n_v vs 0) 52)) (w_ei ws (w_ar ws (n_v vs 0) 46)) (w_ei ws (w_ar ws (n_v vs 0) 33)) (w_ei ws (w_ar ws (n_v vs 0) 34)) (w_fi ws (n_v vs 0) 31) (w_fi ws (n_v vs 0) 32) (w_ei ws (w_ar ws (n_v vs 0) 35)) (w_ei ws (w_ar ws (n_v vs 0) 117)) (w_fi ws (n_v vs 0) 125) (w_fi ws (n_v vs 0) 49) (w_ei ws (w_ar ws (n_v vs 0) 42)) (w_ei ws (w_ar ws (n_v vs 0) 43)) (w_ei ws (w_ar ws (n_v vs 0) 44)) (v_iv (Value.int x)) k1 k2 k3 k5 k6 k8 k10 k11 k12 k14 k15 d0 d1 d2 g0 f1 h2 h4 f6 f7 h8 h9 f10 f11 f12 f13 f14 f15 f16 f17 f18 f19 f20 f21 f22 f23 f24 f25 hK_0_33 hK_0_34 hK_0_35 hK_0_42 hK_0_43 hK_0_44 hK_0_46 hK_0_52 hK_0_117 kz_0_31 kz_0_32 kz_0_45 kz_0_49 kz_0_125 ex2 ex3
  have nf10 : fc_1 PRD (20, [2, 0], [30, -1, 1, 0, 0, -1, 1, 31]) ws (vs ++ [Value.int x]) := by
    refine ⟨nf_inA hl rfl, sgq_553 ?_⟩
    · show 1 * v_iv (n_v (vs ++ [Value.int x]) 2) + ((-1) * w_fi ws (n_v (vs ++ [Value.int x]) 0) 31 + 0) ≤ (-1)
      simp only [e_0, e_2]
      exact vc_Mo_stOrder_32_10 (v_iv (n_v vs 1)) (v_iv (n_v vs 2)) (v_iv (n_v vs 3)) (v_iv (n_v vs 5)) (v_iv (n_v vs 6)) (v_iv (n_v vs 8)) (v_iv (n_v vs 10)) (v_iv (n_v vs 11)) (v_iv (n_v vs 12)) (v_iv (n_v vs 14)) (v_iv (n_v vs 15)) (w_fi ws (n_v vs 0) 45) (w_ei ws (w_ar ws (n_v vs 0) 52)) (w_ei ws (w_ar ws (n_v vs 0) 46)) (w_ei ws (w_ar ws (n_v vs 0) 33)) (w_ei ws (w_ar ws (n_v vs 0) 34)) (w_fi ws (n_v vs 0) 31) (w_fi ws (n_v vs 0) 32) (w_ei ws (w_ar ws (n_v vs 0) 35)) (w_ei ws (w_ar ws (n_v vs 0) 117)) (w_fi ws (n_v vs 0) 125) (w_fi ws (n_v vs 0) 49) (w_ei ws (w_ar ws (n_v vs 0) 42)) (w_ei ws (w_ar ws (n_v vs 0) 43)) (w_ei ws (w_ar ws (n_v vs 0) 44)) (v_iv (Value.int x)) k1 k2 k3 k5 k6 k8 k10 k11 k12 k14 k15 d0 d1 d2 g0 f1 h2 h4 f6 f7 h8 h9 f10 f11 f12 f13 f14 f15 f16 f17 f18 f19 f20 f21 f22 f23 f24 f25 hK_0_33 hK_0_34 hK_0_35 hK_0_42 hK_0_43 hK_0_44 hK_0_46 hK_0_52 hK_0_117 kz_0_31 kz_0_32 kz_0_45 kz_0_49 kz_0_125 ex2 ex3
  have nf11 : fc_1 PRD (20, [3, 0], [30, -1, 1, 0, 0, -1, 1, 31]) ws (vs ++ [Value.int x]) := by
    refine ⟨nf_inA hl rfl, sgq_553 ?_⟩
    · show 1 * v_iv (n_v (vs ++ [Value.int x]) 3) + ((-1) * w_fi ws (n_v (vs ++ [Value.int x]) 0) 31 + 0) ≤ (-1)
      simp only [e_0, e_3]
      exact vc_Mo_stOrder_32_11 (v_iv (n_v vs 1)) (v_iv (n_v vs 2)) (v_iv (n_v vs 3)) (v_iv (n_v vs 5)) (v_iv (n_v vs 6)) (v_iv (n_v vs 8)) (v_iv (n_v vs 10)) (v_iv (n_v vs 11)) (v_iv (n_v vs 12)) (v_iv (n_v vs 14)) (v_iv (n_v vs 15)) (w_fi ws (n_v vs 0) 45) (w_ei ws (w_ar ws (n_v vs 0) 52)) (w_ei ws (w_ar ws (n_v vs 0) 46)) (w_ei ws (w_ar ws (n_v vs 0) 33)) (w_ei ws (w_ar ws (n_v vs 0) 34)) (w_fi ws (n_v vs 0) 31) (w_fi ws (n_v vs 0) 32) (w_ei ws (w_ar ws (n_v vs 0) 35)) (w_ei ws (w_ar ws (n_v vs 0) 117)) (w_fi ws (n_v vs 0) 125) (w_fi ws (n_v vs 0) 49) (w_ei ws (w_ar ws (n_v vs 0) 42)) (w_ei ws (w_ar ws (n_v vs 0) 43)) (w_ei ws (w_ar ws (n_v vs 0) 44)) (v_iv (Value.int x)) k1 k2 k3 k5 k6 k8 k10 k11 k12 k14 k15 d0 d1 d2 g0 f1 h2 h4 f6 f7 h8 h9 f10 f11 f12 f13 f14 f15 f16 f17 f18 f19 f20 f21 f22 f23 f24 f25 hK_0_33 hK_0_34 hK_0_35 hK_0_42 hK_0_43 hK_0_44 hK_0_46 hK_0_52 hK_0_117 kz_0_31 kz_0_32 kz_0_45 kz_0_49 kz_0_125 ex2 ex3
  have nf12 : fc_1 PRD (20, [0, 2], [50, 0, 1, 42, 7, 5, 3, 0, 42, 1, 1, 0, 0]) ws (vs ++ [Value.int x]) := by
    refine ⟨nf_inA hl rfl, sgq_1762 ?_⟩
    · show w_ei ws (w_ar ws (n_v (vs ++ [Value.int x]) 0) 42) (v_iv (n_v (vs ++ [Value.int x]) 2)) ≠ 0
      simp only [e_0, e_2]
      exact vc_Mo_stOrder_32_12 (v_iv (n_v vs 1)) (v_iv (n_v vs 2)) (v_iv (n_v vs 3)) (v_iv (n_v vs 5)) (v_iv (n_v vs 6)) (v_iv (n_v vs 8)) (v_iv (n_v vs 10)) (v_iv (n_v vs 11)) (v_iv (n_v vs 12)) (v_iv (n_v vs 14)) (v_iv (n_v vs 15)) (w_fi ws (n_v vs 0) 45) (w_ei ws (w_ar ws (n_v vs 0) 52)) (w_ei ws (w_ar ws (n_v vs 0) 46)) (w_ei ws (w_ar ws (n_v vs 0) 33)) (w_ei ws (w_ar ws (n_v vs 0) 34)) (w_fi ws (n_v vs 0) 31) (w_fi ws (n_v vs 0) 32) (w_ei ws (w_ar ws (n_v vs 0) 35)) (w_ei ws (w_ar ws (n_v vs 0) 117)) (w_fi ws (n_v vs 0) 125) (w_fi ws (n_v vs 0) 49) (w_ei ws (w_ar ws (n_v vs 0) 42)) (w_ei ws (w_ar ws (n_v vs 0) 43)) (w_ei ws (w_ar ws (n_v vs 0) 44)) (v_iv (Value.int x)) k1 k2 k3 k5 k6 k8 k10 k11 k12 k14 k15 d0 d1 d2 g0 f1 h2 h4 f6 f7 h8 h9 f10 f11 f12 f13 f14 f15 f16 f17 f18 f19 f20 f21 f22 f23 f24 f25 hK_0_33 hK_0_34 hK_0_35 hK_0_42 hK_0_43 hK_0_44 hK_0_46 hK_0_52 hK_0_117 kz_0_31 kz_0_32 kz_0_45 kz_0_49 kz_0_125 ex2 ex3
  obtain ⟨x0, e0, _, _⟩ := tv_int t6 rfl
  have e1 : v_iv (n_v vs 6) = x0.toInt := by rw [e0]; rfl
  have ho : sy_ofs (vs ++ [Value.int x]) (16, 6, 0, 0) := by
    refine ⟨x, x0, by rw [List.getElem?_append_right (by rw [hl]; decide), hl]; rfl, ?_, ?_, ?_⟩
    · rw [List.getElem?_append_left (by rw [hl]; decide)]; exact n_v_some (by rw [hl]; decide) e0
    · show x0.toInt + 0 ≤ x.toInt; omega
    · show x.toInt ≤ x0.toInt + 0; omega
  exact ⟨(fun _ h => (by cases h)), [Value.int x], ag_one hx, List.forall_mem_cons.mpr ⟨⟨show (20 : Nat) < 100 from by decide, nf0⟩, List.forall_mem_cons.mpr ⟨⟨show (20 : Nat) < 100 from by decide, nf1⟩, List.forall_mem_cons.mpr ⟨⟨show (20 : Nat) < 100 from by decide, nf2⟩, List.forall_mem_cons.mpr ⟨⟨show (20 : Nat) < 100 from by decide, nf3⟩, List.forall_mem_cons.mpr ⟨⟨show (20 : Nat) < 100 from by decide, nf4⟩, List.forall_mem_cons.mpr ⟨⟨show (20 : Nat) < 100 from by decide, nf5⟩, List.forall_mem_cons.mpr ⟨⟨show (20 : Nat) < 100 from by decide, nf6⟩, List.forall_mem_cons.mpr ⟨⟨show (20 : Nat) < 100 from by decide, nf7⟩, List.forall_mem_cons.mpr ⟨⟨show (20 : Nat) < 100 from by decide, nf8⟩, List.forall_mem_cons.mpr ⟨⟨show (20 : Nat) < 100 from by decide, nf9⟩, List.forall_mem_cons.mpr ⟨⟨show (20 : Nat) < 100 from by decide, nf10⟩, List.forall_mem_cons.mpr ⟨⟨show (20 : Nat) < 100 from by decide, nf11⟩, List.forall_mem_cons.mpr ⟨⟨show (20 : Nat) < 100 from by decide, nf12⟩, (fun _ h => (by cases h))⟩⟩⟩⟩⟩⟩⟩⟩⟩⟩⟩⟩⟩, List.forall_mem_cons.mpr ⟨ho, (fun _ h => (by cases h))⟩⟩
set_option maxHeartbeats 4000000 in
theorem vc_Mo_stOrder_33_0 (x1 : Int) (x2 : Int) (x3 : Int) (x5 : Int) (x6 : Int) (x7 : Int) (pt_0 : Int → Int) (ph_0 : Int → Int) (pn_0 : Int) (pm_0 : Int) (alive_0 : Int → Int) (row_0 : Int → Int) (rowMany_0 : Int) (onlyPiece_0 : Int) (drawnNode_0 : Int → Int) (drawnEdge_0 : Int → Int) (way_0 : Int → Int) (bestWay_0 : Int → Int) (wayMany_0 : Int) (pieceOf_0 : Int → Int) (gx : Int) (k1 : 0 ≤ x1 ∧ x1 ≤ 30) (k2 : 0 ≤ x2 ∧ x2 ≤ 24) (k3 : 0 ≤ x3 ∧ x3 ≤ 24) (k5 : 0 ≤ x5 ∧ x5 ≤ 30) (k6 : (-2) ≤ x6 ∧ x6 ≤ 26) (k7 : 1 ≤ x7 ∧ x7 ≤ 25) (d0 : x3 + 1 ≤ x7 ∧ x7 ≤ x3 + 1) (d1 : x1 + 0 ≤ x5 ∧ x5 ≤ x1 + 4294967296) (d2 : x1 + (-4294967296) ≤ x5 ∧ x5 ≤ x1 + 0) (f0 : x7 = x3 + 1) (f1 : x1 ≤ x5) (f2 : GOK (pn_0) (pm_0) (pt_0) (ph_0)) (f3 : STB (pn_0) (pm_0) (pt_0) (ph_0) (alive_0)) (f4 : STR (pn_0) (rowMany_0) (pt_0) (ph_0) (row_0)) (f5 : onlyPiece_0 = (-1)) (f6 : (-1) * rowMany_0 + ((-1) * x6 + 0) ≤ (-26)) (f7 : DRR (pn_0) (rowMany_0) (drawnNode_0) (row_0)) (f8 : DEM (pm_0) (pt_0) (ph_0) (drawnNode_0) (drawnEdge_0)) (f9 : UA (pm_0) (alive_0) (drawnEdge_0)) (f10 : (rowMany_0 + 1) ≤ pn_0) (f11 : BC1 (pn_0) (wayMany_0) (drawnNode_0) (way_0) (bestWay_0) (x1) (x5)) (f12 : 1 * x2 + ((-1) * pn_0 + 0) ≤ (-1)) (f13 : 1 * x3 + ((-1) * pn_0 + 0) ≤ (-1)) (f14 : drawnNode_0 (x2) ≠ 0) (hK_0_33 : ∀ j : Int, 0 ≤ j → j < 80 → 0 ≤ pt_0 j ∧ pt_0 j ≤ 24) (hK_0_34 : ∀ j : Int, 0 ≤ j → j < 80 → 0 ≤ ph_0 j ∧ ph_0 j ≤ 24) (hK_0_35 : ∀ j : Int, 0 ≤ j → j < 80 → 0 ≤ alive_0 j ∧ alive_0 j ≤ 1) (hK_0_42 : ∀ j : Int, 0 ≤ j → j < 26 → 0 ≤ drawnNode_0 j ∧ drawnNode_0 j ≤ 1) (hK_0_43 : ∀ j : Int, 0 ≤ j → j < 80 → 0 ≤ drawnEdge_0 j ∧ drawnEdge_0 j ≤ 1) (hK_0_44 : ∀ j : Int, 0 ≤ j → j < 80 → (-1) ≤ pieceOf_0 j ∧ pieceOf_0 j ≤ 79) (hK_0_46 : ∀ j : Int, 0 ≤ j → j < 30 → 0 ≤ way_0 j ∧ way_0 j ≤ 24) (hK_0_52 : ∀ j : Int, 0 ≤ j → j < 30 → 0 ≤ bestWay_0 j ∧ bestWay_0 j ≤ 24) (hK_0_117 : ∀ j : Int, 0 ≤ j → j < 100 → 0 ≤ row_0 j ∧ row_0 j ≤ 75) (kz_0_31 : 0 ≤ pn_0 ∧ pn_0 ≤ 25) (kz_0_32 : 0 ≤ pm_0 ∧ pm_0 ≤ 80) (kz_0_45 : 0 ≤ wayMany_0 ∧ wayMany_0 ≤ 30) (kz_0_49 : (-1) ≤ onlyPiece_0 ∧ onlyPiece_0 ≤ 79) (kz_0_125 : 0 ≤ rowMany_0 ∧ rowMany_0 ≤ 100) (ex2 : gx = 0 + (1 * x6 + 0)) (ex3 : (-2) ≤ gx ∧ gx ≤ 26) : GOK (pn_0) (pm_0) (pt_0) (ph_0) := by
  first
    | assumption
    | exact ‹STB _ _ _ _ _›.1.1
set_option maxHeartbeats 4000000 in
theorem vc_Mo_stOrder_33_1 (x1 : Int) (x2 : Int) (x3 : Int) (x5 : Int) (x6 : Int) (x7 : Int) (pt_0 : Int → Int) (ph_0 : Int → Int) (pn_0 : Int) (pm_0 : Int) (alive_0 : Int → Int) (row_0 : Int → Int) (rowMany_0 : Int) (onlyPiece_0 : Int) (drawnNode_0 : Int → Int) (drawnEdge_0 : Int → Int) (way_0 : Int → Int) (bestWay_0 : Int → Int) (wayMany_0 : Int) (pieceOf_0 : Int → Int) (gx : Int) (k1 : 0 ≤ x1 ∧ x1 ≤ 30) (k2 : 0 ≤ x2 ∧ x2 ≤ 24) (k3 : 0 ≤ x3 ∧ x3 ≤ 24) (k5 : 0 ≤ x5 ∧ x5 ≤ 30) (k6 : (-2) ≤ x6 ∧ x6 ≤ 26) (k7 : 1 ≤ x7 ∧ x7 ≤ 25) (d0 : x3 + 1 ≤ x7 ∧ x7 ≤ x3 + 1) (d1 : x1 + 0 ≤ x5 ∧ x5 ≤ x1 + 4294967296) (d2 : x1 + (-4294967296) ≤ x5 ∧ x5 ≤ x1 + 0) (f0 : x7 = x3 + 1) (f1 : x1 ≤ x5) (f2 : GOK (pn_0) (pm_0) (pt_0) (ph_0)) (f3 : STB (pn_0) (pm_0) (pt_0) (ph_0) (alive_0)) (f4 : STR (pn_0) (rowMany_0) (pt_0) (ph_0) (row_0)) (f5 : onlyPiece_0 = (-1)) (f6 : (-1) * rowMany_0 + ((-1) * x6 + 0) ≤ (-26)) (f7 : DRR (pn_0) (rowMany_0) (drawnNode_0) (row_0)) (f8 : DEM (pm_0) (pt_0) (ph_0) (drawnNode_0) (drawnEdge_0)) (f9 : UA (pm_0) (alive_0) (drawnEdge_0)) (f10 : (rowMany_0 + 1) ≤ pn_0) (f11 : BC1 (pn_0) (wayMany_0) (drawnNode_0) (way_0) (bestWay_0) (x1) (x5)) (f12 : 1 * x2 + ((-1) * pn_0 + 0) ≤ (-1)) (f13 : 1 * x3 + ((-1) * pn_0 + 0) ≤ (-1)) (f14 : drawnNode_0 (x2) ≠ 0) (hK_0_33 : ∀ j : Int, 0 ≤ j → j < 80 → 0 ≤ pt_0 j ∧ pt_0 j ≤ 24) (hK_0_34 : ∀ j : Int, 0 ≤ j → j < 80 → 0 ≤ ph_0 j ∧ ph_0 j ≤ 24) (hK_0_35 : ∀ j : Int, 0 ≤ j → j < 80 → 0 ≤ alive_0 j ∧ alive_0 j ≤ 1) (hK_0_42 : ∀ j : Int, 0 ≤ j → j < 26 → 0 ≤ drawnNode_0 j ∧ drawnNode_0 j ≤ 1) (hK_0_43 : ∀ j : Int, 0 ≤ j → j < 80 → 0 ≤ drawnEdge_0 j ∧ drawnEdge_0 j ≤ 1) (hK_0_44 : ∀ j : Int, 0 ≤ j → j < 80 → (-1) ≤ pieceOf_0 j ∧ pieceOf_0 j ≤ 79) (hK_0_46 : ∀ j : Int, 0 ≤ j → j < 30 → 0 ≤ way_0 j ∧ way_0 j ≤ 24) (hK_0_52 : ∀ j : Int, 0 ≤ j → j < 30 → 0 ≤ bestWay_0 j ∧ bestWay_0 j ≤ 24) (hK_0_117 : ∀ j : Int, 0 ≤ j → j < 100 → 0 ≤ row_0 j ∧ row_0 j ≤ 75) (kz_0_31 : 0 ≤ pn_0 ∧ pn_0 ≤ 25) (kz_0_32 : 0 ≤ pm_0 ∧ pm_0 ≤ 80) (kz_0_45 : 0 ≤ wayMany_0 ∧ wayMany_0 ≤ 30) (kz_0_49 : (-1) ≤ onlyPiece_0 ∧ onlyPiece_0 ≤ 79) (kz_0_125 : 0 ≤ rowMany_0 ∧ rowMany_0 ≤ 100) (ex2 : gx = 0 + (1 * x6 + 0)) (ex3 : (-2) ≤ gx ∧ gx ≤ 26) : STB (pn_0) (pm_0) (pt_0) (ph_0) (alive_0) := by
  first | assumption
set_option maxHeartbeats 4000000 in
theorem vc_Mo_stOrder_33_2 (x1 : Int) (x2 : Int) (x3 : Int) (x5 : Int) (x6 : Int) (x7 : Int) (pt_0 : Int → Int) (ph_0 : Int → Int) (pn_0 : Int) (pm_0 : Int) (alive_0 : Int → Int) (row_0 : Int → Int) (rowMany_0 : Int) (onlyPiece_0 : Int) (drawnNode_0 : Int → Int) (drawnEdge_0 : Int → Int) (way_0 : Int → Int) (bestWay_0 : Int → Int) (wayMany_0 : Int) (pieceOf_0 : Int → Int) (gx : Int) (k1 : 0 ≤ x1 ∧ x1 ≤ 30) (k2 : 0 ≤ x2 ∧ x2 ≤ 24) (k3 : 0 ≤ x3 ∧ x3 ≤ 24) (k5 : 0 ≤ x5 ∧ x5 ≤ 30) (k6 : (-2) ≤ x6 ∧ x6 ≤ 26) (k7 : 1 ≤ x7 ∧ x7 ≤ 25) (d0 : x3 + 1 ≤ x7 ∧ x7 ≤ x3 + 1) (d1 : x1 + 0 ≤ x5 ∧ x5 ≤ x1 + 4294967296) (d2 : x1 + (-4294967296) ≤ x5 ∧ x5 ≤ x1 + 0) (f0 : x7 = x3 + 1) (f1 : x1 ≤ x5) (f2 : GOK (pn_0) (pm_0) (pt_0) (ph_0)) (f3 : STB (pn_0) (pm_0) (pt_0) (ph_0) (alive_0)) (f4 : STR (pn_0) (rowMany_0) (pt_0) (ph_0) (row_0)) (f5 : onlyPiece_0 = (-1)) (f6 : (-1) * rowMany_0 + ((-1) * x6 + 0) ≤ (-26)) (f7 : DRR (pn_0) (rowMany_0) (drawnNode_0) (row_0)) (f8 : DEM (pm_0) (pt_0) (ph_0) (drawnNode_0) (drawnEdge_0)) (f9 : UA (pm_0) (alive_0) (drawnEdge_0)) (f10 : (rowMany_0 + 1) ≤ pn_0) (f11 : BC1 (pn_0) (wayMany_0) (drawnNode_0) (way_0) (bestWay_0) (x1) (x5)) (f12 : 1 * x2 + ((-1) * pn_0 + 0) ≤ (-1)) (f13 : 1 * x3 + ((-1) * pn_0 + 0) ≤ (-1)) (f14 : drawnNode_0 (x2) ≠ 0) (hK_0_33 : ∀ j : Int, 0 ≤ j → j < 80 → 0 ≤ pt_0 j ∧ pt_0 j ≤ 24) (hK_0_34 : ∀ j : Int, 0 ≤ j → j < 80 → 0 ≤ ph_0 j ∧ ph_0 j ≤ 24) (hK_0_35 : ∀ j : Int, 0 ≤ j → j < 80 → 0 ≤ alive_0 j ∧ alive_0 j ≤ 1) (hK_0_42 : ∀ j : Int, 0 ≤ j → j < 26 → 0 ≤ drawnNode_0 j ∧ drawnNode_0 j ≤ 1) (hK_0_43 : ∀ j : Int, 0 ≤ j → j < 80 → 0 ≤ drawnEdge_0 j ∧ drawnEdge_0 j ≤ 1) (hK_0_44 : ∀ j : Int, 0 ≤ j → j < 80 → (-1) ≤ pieceOf_0 j ∧ pieceOf_0 j ≤ 79) (hK_0_46 : ∀ j : Int, 0 ≤ j → j < 30 → 0 ≤ way_0 j ∧ way_0 j ≤ 24) (hK_0_52 : ∀ j : Int, 0 ≤ j → j < 30 → 0 ≤ bestWay_0 j ∧ bestWay_0 j ≤ 24) (hK_0_117 : ∀ j : Int, 0 ≤ j → j < 100 → 0 ≤ row_0 j ∧ row_0 j ≤ 75) (kz_0_31 : 0 ≤ pn_0 ∧ pn_0 ≤ 25) (kz_0_32 : 0 ≤ pm_0 ∧ pm_0 ≤ 80) (kz_0_45 : 0 ≤ wayMany_0 ∧ wayMany_0 ≤ 30) (kz_0_49 : (-1) ≤ onlyPiece_0 ∧ onlyPiece_0 ≤ 79) (kz_0_125 : 0 ≤ rowMany_0 ∧ rowMany_0 ≤ 100) (ex2 : gx = 0 + (1 * x6 + 0)) (ex3 : (-2) ≤ gx ∧ gx ≤ 26) : STR (pn_0) (rowMany_0) (pt_0) (ph_0) (row_0) := by
  first | assumption
set_option maxHeartbeats 4000000 in
theorem vc_Mo_stOrder_33_3 (x1 : Int) (x2 : Int) (x3 : Int) (x5 : Int) (x6 : Int) (x7 : Int) (pt_0 : Int → Int) (ph_0 : Int → Int) (pn_0 : Int) (pm_0 : Int) (alive_0 : Int → Int) (row_0 : Int → Int) (rowMany_0 : Int) (onlyPiece_0 : Int) (drawnNode_0 : Int → Int) (drawnEdge_0 : Int → Int) (way_0 : Int → Int) (bestWay_0 : Int → Int) (wayMany_0 : Int) (pieceOf_0 : Int → Int) (gx : Int) (k1 : 0 ≤ x1 ∧ x1 ≤ 30) (k2 : 0 ≤ x2 ∧ x2 ≤ 24) (k3 : 0 ≤ x3 ∧ x3 ≤ 24) (k5 : 0 ≤ x5 ∧ x5 ≤ 30) (k6 : (-2) ≤ x6 ∧ x6 ≤ 26) (k7 : 1 ≤ x7 ∧ x7 ≤ 25) (d0 : x3 + 1 ≤ x7 ∧ x7 ≤ x3 + 1) (d1 : x1 + 0 ≤ x5 ∧ x5 ≤ x1 + 4294967296) (d2 : x1 + (-4294967296) ≤ x5 ∧ x5 ≤ x1 + 0) (f0 : x7 = x3 + 1) (f1 : x1 ≤ x5) (f2 : GOK (pn_0) (pm_0) (pt_0) (ph_0)) (f3 : STB (pn_0) (pm_0) (pt_0) (ph_0) (alive_0)) (f4 : STR (pn_0) (rowMany_0) (pt_0) (ph_0) (row_0)) (f5 : onlyPiece_0 = (-1)) (f6 : (-1) * rowMany_0 + ((-1) * x6 + 0) ≤ (-26)) (f7 : DRR (pn_0) (rowMany_0) (drawnNode_0) (row_0)) (f8 : DEM (pm_0) (pt_0) (ph_0) (drawnNode_0) (drawnEdge_0)) (f9 : UA (pm_0) (alive_0) (drawnEdge_0)) (f10 : (rowMany_0 + 1) ≤ pn_0) (f11 : BC1 (pn_0) (wayMany_0) (drawnNode_0) (way_0) (bestWay_0) (x1) (x5)) (f12 : 1 * x2 + ((-1) * pn_0 + 0) ≤ (-1)) (f13 : 1 * x3 + ((-1) * pn_0 + 0) ≤ (-1)) (f14 : drawnNode_0 (x2) ≠ 0) (hK_0_33 : ∀ j : Int, 0 ≤ j → j < 80 → 0 ≤ pt_0 j ∧ pt_0 j ≤ 24) (hK_0_34 : ∀ j : Int, 0 ≤ j → j < 80 → 0 ≤ ph_0 j ∧ ph_0 j ≤ 24) (hK_0_35 : ∀ j : Int, 0 ≤ j → j < 80 → 0 ≤ alive_0 j ∧ alive_0 j ≤ 1) (hK_0_42 : ∀ j : Int, 0 ≤ j → j < 26 → 0 ≤ drawnNode_0 j ∧ drawnNode_0 j ≤ 1) (hK_0_43 : ∀ j : Int, 0 ≤ j → j < 80 → 0 ≤ drawnEdge_0 j ∧ drawnEdge_0 j ≤ 1) (hK_0_44 : ∀ j : Int, 0 ≤ j → j < 80 → (-1) ≤ pieceOf_0 j ∧ pieceOf_0 j ≤ 79) (hK_0_46 : ∀ j : Int, 0 ≤ j → j < 30 → 0 ≤ way_0 j ∧ way_0 j ≤ 24) (hK_0_52 : ∀ j : Int, 0 ≤ j → j < 30 → 0 ≤ bestWay_0 j ∧ bestWay_0 j ≤ 24) (hK_0_117 : ∀ j : Int, 0 ≤ j → j < 100 → 0 ≤ row_0 j ∧ row_0 j ≤ 75) (kz_0_31 : 0 ≤ pn_0 ∧ pn_0 ≤ 25) (kz_0_32 : 0 ≤ pm_0 ∧ pm_0 ≤ 80) (kz_0_45 : 0 ≤ wayMany_0 ∧ wayMany_0 ≤ 30) (kz_0_49 : (-1) ≤ onlyPiece_0 ∧ onlyPiece_0 ≤ 79) (kz_0_125 : 0 ≤ rowMany_0 ∧ rowMany_0 ≤ 100) (ex2 : gx = 0 + (1 * x6 + 0)) (ex3 : (-2) ≤ gx ∧ gx ≤ 26) : onlyPiece_0 = (-1) := by
  first
    | omega
    | (have h := ‹STB _ _ _ _ _›.1.2.2; omega)
    | (have h := ‹STR _ _ _ _ _›.1; omega)
    | (have h := ‹STR _ _ _ _ _›.1
       have w := ‹STR _ _ _ _ _›.2.1 x1 (by omega) (by omega)
       omega)
    | (have h := bc_len ‹BC1 _ _ _ _ _ _ _›
       have h2 := ‹STR _ _ _ _ _›.1
       omega)
    | (have h := (sb_way ‹SB1 _ _ _ _ _ _ _ _ _ _ _ _› (by omega)).1
       have h2 := ‹STR _ _ _ _ _›.1
       omega)
    | (have h := ‹WYM _ _ _ _›.1
       have h2 := ‹STR _ _ _ _ _›.1
       omega)
set_option maxHeartbeats 4000000 in
theorem vc_Mo_stOrder_33_4 (x1 : Int) (x2 : Int) (x3 : Int) (x5 : Int) (x6 : Int) (x7 : Int) (pt_0 : Int → Int) (ph_0 : Int → Int) (pn_0 : Int) (pm_0 : Int) (alive_0 : Int → Int) (row_0 : Int → Int) (rowMany_0 : Int) (onlyPiece_0 : Int) (drawnNode_0 : Int → Int) (drawnEdge_0 : Int → Int) (way_0 : Int → Int) (bestWay_0 : Int → Int) (wayMany_0 : Int) (pieceOf_0 : Int → Int) (gx : Int) (k1 : 0 ≤ x1 ∧ x1 ≤ 30) (k2 : 0 ≤ x2 ∧ x2 ≤ 24) (k3 : 0 ≤ x3 ∧ x3 ≤ 24) (k5 : 0 ≤ x5 ∧ x5 ≤ 30) (k6 : (-2) ≤ x6 ∧ x6 ≤ 26) (k7 : 1 ≤ x7 ∧ x7 ≤ 25) (d0 : x3 + 1 ≤ x7 ∧ x7 ≤ x3 + 1) (d1 : x1 + 0 ≤ x5 ∧ x5 ≤ x1 + 4294967296) (d2 : x1 + (-4294967296) ≤ x5 ∧ x5 ≤ x1 + 0) (f0 : x7 = x3 + 1) (f1 : x1 ≤ x5) (f2 : GOK (pn_0) (pm_0) (pt_0) (ph_0)) (f3 : STB (pn_0) (pm_0) (pt_0) (ph_0) (alive_0)) (f4 : STR (pn_0) (rowMany_0) (pt_0) (ph_0) (row_0)) (f5 : onlyPiece_0 = (-1)) (f6 : (-1) * rowMany_0 + ((-1) * x6 + 0) ≤ (-26)) (f7 : DRR (pn_0) (rowMany_0) (drawnNode_0) (row_0)) (f8 : DEM (pm_0) (pt_0) (ph_0) (drawnNode_0) (drawnEdge_0)) (f9 : UA (pm_0) (alive_0) (drawnEdge_0)) (f10 : (rowMany_0 + 1) ≤ pn_0) (f11 : BC1 (pn_0) (wayMany_0) (drawnNode_0) (way_0) (bestWay_0) (x1) (x5)) (f12 : 1 * x2 + ((-1) * pn_0 + 0) ≤ (-1)) (f13 : 1 * x3 + ((-1) * pn_0 + 0) ≤ (-1)) (f14 : drawnNode_0 (x2) ≠ 0) (hK_0_33 : ∀ j : Int, 0 ≤ j → j < 80 → 0 ≤ pt_0 j ∧ pt_0 j ≤ 24) (hK_0_34 : ∀ j : Int, 0 ≤ j → j < 80 → 0 ≤ ph_0 j ∧ ph_0 j ≤ 24) (hK_0_35 : ∀ j : Int, 0 ≤ j → j < 80 → 0 ≤ alive_0 j ∧ alive_0 j ≤ 1) (hK_0_42 : ∀ j : Int, 0 ≤ j → j < 26 → 0 ≤ drawnNode_0 j ∧ drawnNode_0 j ≤ 1) (hK_0_43 : ∀ j : Int, 0 ≤ j → j < 80 → 0 ≤ drawnEdge_0 j ∧ drawnEdge_0 j ≤ 1) (hK_0_44 : ∀ j : Int, 0 ≤ j → j < 80 → (-1) ≤ pieceOf_0 j ∧ pieceOf_0 j ≤ 79) (hK_0_46 : ∀ j : Int, 0 ≤ j → j < 30 → 0 ≤ way_0 j ∧ way_0 j ≤ 24) (hK_0_52 : ∀ j : Int, 0 ≤ j → j < 30 → 0 ≤ bestWay_0 j ∧ bestWay_0 j ≤ 24) (hK_0_117 : ∀ j : Int, 0 ≤ j → j < 100 → 0 ≤ row_0 j ∧ row_0 j ≤ 75) (kz_0_31 : 0 ≤ pn_0 ∧ pn_0 ≤ 25) (kz_0_32 : 0 ≤ pm_0 ∧ pm_0 ≤ 80) (kz_0_45 : 0 ≤ wayMany_0 ∧ wayMany_0 ≤ 30) (kz_0_49 : (-1) ≤ onlyPiece_0 ∧ onlyPiece_0 ≤ 79) (kz_0_125 : 0 ≤ rowMany_0 ∧ rowMany_0 ≤ 100) (ex2 : gx = 0 + (1 * x6 + 0)) (ex3 : (-2) ≤ gx ∧ gx ≤ 26) : (-1) * rowMany_0 + ((-1) * gx + 0) ≤ (-26) := by
  first
    | omega
    | (have h := ‹STB _ _ _ _ _›.1.2.2; omega)
    | (have h := ‹STR _ _ _ _ _›.1; omega)
    | (have h := ‹STR _ _ _ _ _›.1
       have w := ‹STR _ _ _ _ _›.2.1 x1 (by omega) (by omega)
       omega)
    | (have h := bc_len ‹BC1 _ _ _ _ _ _ _›
       have h2 := ‹STR _ _ _ _ _›.1
       omega)
    | (have h := (sb_way ‹SB1 _ _ _ _ _ _ _ _ _ _ _ _› (by omega)).1
       have h2 := ‹STR _ _ _ _ _›.1
       omega)
    | (have h := ‹WYM _ _ _ _›.1
       have h2 := ‹STR _ _ _ _ _›.1
       omega)
set_option maxHeartbeats 4000000 in
theorem vc_Mo_stOrder_33_5 (x1 : Int) (x2 : Int) (x3 : Int) (x5 : Int) (x6 : Int) (x7 : Int) (pt_0 : Int → Int) (ph_0 : Int → Int) (pn_0 : Int) (pm_0 : Int) (alive_0 : Int → Int) (row_0 : Int → Int) (rowMany_0 : Int) (onlyPiece_0 : Int) (drawnNode_0 : Int → Int) (drawnEdge_0 : Int → Int) (way_0 : Int → Int) (bestWay_0 : Int → Int) (wayMany_0 : Int) (pieceOf_0 : Int → Int) (gx : Int) (k1 : 0 ≤ x1 ∧ x1 ≤ 30) (k2 : 0 ≤ x2 ∧ x2 ≤ 24) (k3 : 0 ≤ x3 ∧ x3 ≤ 24) (k5 : 0 ≤ x5 ∧ x5 ≤ 30) (k6 : (-2) ≤ x6 ∧ x6 ≤ 26) (k7 : 1 ≤ x7 ∧ x7 ≤ 25) (d0 : x3 + 1 ≤ x7 ∧ x7 ≤ x3 + 1) (d1 : x1 + 0 ≤ x5 ∧ x5 ≤ x1 + 4294967296) (d2 : x1 + (-4294967296) ≤ x5 ∧ x5 ≤ x1 + 0) (f0 : x7 = x3 + 1) (f1 : x1 ≤ x5) (f2 : GOK (pn_0) (pm_0) (pt_0) (ph_0)) (f3 : STB (pn_0) (pm_0) (pt_0) (ph_0) (alive_0)) (f4 : STR (pn_0) (rowMany_0) (pt_0) (ph_0) (row_0)) (f5 : onlyPiece_0 = (-1)) (f6 : (-1) * rowMany_0 + ((-1) * x6 + 0) ≤ (-26)) (f7 : DRR (pn_0) (rowMany_0) (drawnNode_0) (row_0)) (f8 : DEM (pm_0) (pt_0) (ph_0) (drawnNode_0) (drawnEdge_0)) (f9 : UA (pm_0) (alive_0) (drawnEdge_0)) (f10 : (rowMany_0 + 1) ≤ pn_0) (f11 : BC1 (pn_0) (wayMany_0) (drawnNode_0) (way_0) (bestWay_0) (x1) (x5)) (f12 : 1 * x2 + ((-1) * pn_0 + 0) ≤ (-1)) (f13 : 1 * x3 + ((-1) * pn_0 + 0) ≤ (-1)) (f14 : drawnNode_0 (x2) ≠ 0) (hK_0_33 : ∀ j : Int, 0 ≤ j → j < 80 → 0 ≤ pt_0 j ∧ pt_0 j ≤ 24) (hK_0_34 : ∀ j : Int, 0 ≤ j → j < 80 → 0 ≤ ph_0 j ∧ ph_0 j ≤ 24) (hK_0_35 : ∀ j : Int, 0 ≤ j → j < 80 → 0 ≤ alive_0 j ∧ alive_0 j ≤ 1) (hK_0_42 : ∀ j : Int, 0 ≤ j → j < 26 → 0 ≤ drawnNode_0 j ∧ drawnNode_0 j ≤ 1) (hK_0_43 : ∀ j : Int, 0 ≤ j → j < 80 → 0 ≤ drawnEdge_0 j ∧ drawnEdge_0 j ≤ 1) (hK_0_44 : ∀ j : Int, 0 ≤ j → j < 80 → (-1) ≤ pieceOf_0 j ∧ pieceOf_0 j ≤ 79) (hK_0_46 : ∀ j : Int, 0 ≤ j → j < 30 → 0 ≤ way_0 j ∧ way_0 j ≤ 24) (hK_0_52 : ∀ j : Int, 0 ≤ j → j < 30 → 0 ≤ bestWay_0 j ∧ bestWay_0 j ≤ 24) (hK_0_117 : ∀ j : Int, 0 ≤ j → j < 100 → 0 ≤ row_0 j ∧ row_0 j ≤ 75) (kz_0_31 : 0 ≤ pn_0 ∧ pn_0 ≤ 25) (kz_0_32 : 0 ≤ pm_0 ∧ pm_0 ≤ 80) (kz_0_45 : 0 ≤ wayMany_0 ∧ wayMany_0 ≤ 30) (kz_0_49 : (-1) ≤ onlyPiece_0 ∧ onlyPiece_0 ≤ 79) (kz_0_125 : 0 ≤ rowMany_0 ∧ rowMany_0 ≤ 100) (ex2 : gx = 0 + (1 * x6 + 0)) (ex3 : (-2) ≤ gx ∧ gx ≤ 26) : DRR (pn_0) (rowMany_0) (drawnNode_0) (row_0) := by
  first | assumption
set_option maxHeartbeats 4000000 in
theorem vc_Mo_stOrder_33_6 (x1 : Int) (x2 : Int) (x3 : Int) (x5 : Int) (x6 : Int) (x7 : Int) (pt_0 : Int → Int) (ph_0 : Int → Int) (pn_0 : Int) (pm_0 : Int) (alive_0 : Int → Int) (row_0 : Int → Int) (rowMany_0 : Int) (onlyPiece_0 : Int) (drawnNode_0 : Int → Int) (drawnEdge_0 : Int → Int) (way_0 : Int → Int) (bestWay_0 : Int → Int) (wayMany_0 : Int) (pieceOf_0 : Int → Int) (gx : Int) (k1 : 0 ≤ x1 ∧ x1 ≤ 30) (k2 : 0 ≤ x2 ∧ x2 ≤ 24) (k3 : 0 ≤ x3 ∧ x3 ≤ 24) (k5 : 0 ≤ x5 ∧ x5 ≤ 30) (k6 : (-2) ≤ x6 ∧ x6 ≤ 26) (k7 : 1 ≤ x7 ∧ x7 ≤ 25) (d0 : x3 + 1 ≤ x7 ∧ x7 ≤ x3 + 1) (d1 : x1 + 0 ≤ x5 ∧ x5 ≤ x1 + 4294967296) (d2 : x1 + (-4294967296) ≤ x5 ∧ x5 ≤ x1 + 0) (f0 : x7 = x3 + 1) (f1 : x1 ≤ x5) (f2 : GOK (pn_0) (pm_0) (pt_0) (ph_0)) (f3 : STB (pn_0) (pm_0) (pt_0) (ph_0) (alive_0)) (f4 : STR (pn_0) (rowMany_0) (pt_0) (ph_0) (row_0)) (f5 : onlyPiece_0 = (-1)) (f6 : (-1) * rowMany_0 + ((-1) * x6 + 0) ≤ (-26)) (f7 : DRR (pn_0) (rowMany_0) (drawnNode_0) (row_0)) (f8 : DEM (pm_0) (pt_0) (ph_0) (drawnNode_0) (drawnEdge_0)) (f9 : UA (pm_0) (alive_0) (drawnEdge_0)) (f10 : (rowMany_0 + 1) ≤ pn_0) (f11 : BC1 (pn_0) (wayMany_0) (drawnNode_0) (way_0) (bestWay_0) (x1) (x5)) (f12 : 1 * x2 + ((-1) * pn_0 + 0) ≤ (-1)) (f13 : 1 * x3 + ((-1) * pn_0 + 0) ≤ (-1)) (f14 : drawnNode_0 (x2) ≠ 0) (hK_0_33 : ∀ j : Int, 0 ≤ j → j < 80 → 0 ≤ pt_0 j ∧ pt_0 j ≤ 24) (hK_0_34 : ∀ j : Int, 0 ≤ j → j < 80 → 0 ≤ ph_0 j ∧ ph_0 j ≤ 24) (hK_0_35 : ∀ j : Int, 0 ≤ j → j < 80 → 0 ≤ alive_0 j ∧ alive_0 j ≤ 1) (hK_0_42 : ∀ j : Int, 0 ≤ j → j < 26 → 0 ≤ drawnNode_0 j ∧ drawnNode_0 j ≤ 1) (hK_0_43 : ∀ j : Int, 0 ≤ j → j < 80 → 0 ≤ drawnEdge_0 j ∧ drawnEdge_0 j ≤ 1) (hK_0_44 : ∀ j : Int, 0 ≤ j → j < 80 → (-1) ≤ pieceOf_0 j ∧ pieceOf_0 j ≤ 79) (hK_0_46 : ∀ j : Int, 0 ≤ j → j < 30 → 0 ≤ way_0 j ∧ way_0 j ≤ 24) (hK_0_52 : ∀ j : Int, 0 ≤ j → j < 30 → 0 ≤ bestWay_0 j ∧ bestWay_0 j ≤ 24) (hK_0_117 : ∀ j : Int, 0 ≤ j → j < 100 → 0 ≤ row_0 j ∧ row_0 j ≤ 75) (kz_0_31 : 0 ≤ pn_0 ∧ pn_0 ≤ 25) (kz_0_32 : 0 ≤ pm_0 ∧ pm_0 ≤ 80) (kz_0_45 : 0 ≤ wayMany_0 ∧ wayMany_0 ≤ 30) (kz_0_49 : (-1) ≤ onlyPiece_0 ∧ onlyPiece_0 ≤ 79) (kz_0_125 : 0 ≤ rowMany_0 ∧ rowMany_0 ≤ 100) (ex2 : gx = 0 + (1 * x6 + 0)) (ex3 : (-2) ≤ gx ∧ gx ≤ 26) : DEM (pm_0) (pt_0) (ph_0) (drawnNode_0) (drawnEdge_0) := by
  first | assumption
set_option maxHeartbeats 4000000 in
theorem vc_Mo_stOrder_33_7 (x1 : Int) (x2 : Int) (x3 : Int) (x5 : Int) (x6 : Int) (x7 : Int) (pt_0 : Int → Int) (ph_0 : Int → Int) (pn_0 : Int) (pm_0 : Int) (alive_0 : Int → Int) (row_0 : Int → Int) (rowMany_0 : Int) (onlyPiece_0 : Int) (drawnNode_0 : Int → Int) (drawnEdge_0 : Int → Int) (way_0 : Int → Int) (bestWay_0 : Int → Int) (wayMany_0 : Int) (pieceOf_0 : Int → Int) (gx : Int) (k1 : 0 ≤ x1 ∧ x1 ≤ 30) (k2 : 0 ≤ x2 ∧ x2 ≤ 24) (k3 : 0 ≤ x3 ∧ x3 ≤ 24) (k5 : 0 ≤ x5 ∧ x5 ≤ 30) (k6 : (-2) ≤ x6 ∧ x6 ≤ 26) (k7 : 1 ≤ x7 ∧ x7 ≤ 25) (d0 : x3 + 1 ≤ x7 ∧ x7 ≤ x3 + 1) (d1 : x1 + 0 ≤ x5 ∧ x5 ≤ x1 + 4294967296) (d2 : x1 + (-4294967296) ≤ x5 ∧ x5 ≤ x1 + 0) (f0 : x7 = x3 + 1) (f1 : x1 ≤ x5) (f2 : GOK (pn_0) (pm_0) (pt_0) (ph_0)) (f3 : STB (pn_0) (pm_0) (pt_0) (ph_0) (alive_0)) (f4 : STR (pn_0) (rowMany_0) (pt_0) (ph_0) (row_0)) (f5 : onlyPiece_0 = (-1)) (f6 : (-1) * rowMany_0 + ((-1) * x6 + 0) ≤ (-26)) (f7 : DRR (pn_0) (rowMany_0) (drawnNode_0) (row_0)) (f8 : DEM (pm_0) (pt_0) (ph_0) (drawnNode_0) (drawnEdge_0)) (f9 : UA (pm_0) (alive_0) (drawnEdge_0)) (f10 : (rowMany_0 + 1) ≤ pn_0) (f11 : BC1 (pn_0) (wayMany_0) (drawnNode_0) (way_0) (bestWay_0) (x1) (x5)) (f12 : 1 * x2 + ((-1) * pn_0 + 0) ≤ (-1)) (f13 : 1 * x3 + ((-1) * pn_0 + 0) ≤ (-1)) (f14 : drawnNode_0 (x2) ≠ 0) (hK_0_33 : ∀ j : Int, 0 ≤ j → j < 80 → 0 ≤ pt_0 j ∧ pt_0 j ≤ 24) (hK_0_34 : ∀ j : Int, 0 ≤ j → j < 80 → 0 ≤ ph_0 j ∧ ph_0 j ≤ 24) (hK_0_35 : ∀ j : Int, 0 ≤ j → j < 80 → 0 ≤ alive_0 j ∧ alive_0 j ≤ 1) (hK_0_42 : ∀ j : Int, 0 ≤ j → j < 26 → 0 ≤ drawnNode_0 j ∧ drawnNode_0 j ≤ 1) (hK_0_43 : ∀ j : Int, 0 ≤ j → j < 80 → 0 ≤ drawnEdge_0 j ∧ drawnEdge_0 j ≤ 1) (hK_0_44 : ∀ j : Int, 0 ≤ j → j < 80 → (-1) ≤ pieceOf_0 j ∧ pieceOf_0 j ≤ 79) (hK_0_46 : ∀ j : Int, 0 ≤ j → j < 30 → 0 ≤ way_0 j ∧ way_0 j ≤ 24) (hK_0_52 : ∀ j : Int, 0 ≤ j → j < 30 → 0 ≤ bestWay_0 j ∧ bestWay_0 j ≤ 24) (hK_0_117 : ∀ j : Int, 0 ≤ j → j < 100 → 0 ≤ row_0 j ∧ row_0 j ≤ 75) (kz_0_31 : 0 ≤ pn_0 ∧ pn_0 ≤ 25) (kz_0_32 : 0 ≤ pm_0 ∧ pm_0 ≤ 80) (kz_0_45 : 0 ≤ wayMany_0 ∧ wayMany_0 ≤ 30) (kz_0_49 : (-1) ≤ onlyPiece_0 ∧ onlyPiece_0 ≤ 79) (kz_0_125 : 0 ≤ rowMany_0 ∧ rowMany_0 ≤ 100) (ex2 : gx = 0 + (1 * x6 + 0)) (ex3 : (-2) ≤ gx ∧ gx ≤ 26) : UA (pm_0) (alive_0) (drawnEdge_0) := by
  first | assumption
set_option maxHeartbeats 4000000 in
theorem vc_Mo_stOrder_33_8 (x1 : Int) (x2 : Int) (x3 : Int) (x5 : Int) (x6 : Int) (x7 : Int) (pt_0 : Int → Int) (ph_0 : Int → Int) (pn_0 : Int) (pm_0 : Int) (alive_0 : Int → Int) (row_0 : Int → Int) (rowMany_0 : Int) (onlyPiece_0 : Int) (drawnNode_0 : Int → Int) (drawnEdge_0 : Int → Int) (way_0 : Int → Int) (bestWay_0 : Int → Int) (wayMany_0 : Int) (pieceOf_0 : Int → Int) (gx : Int) (k1 : 0 ≤ x1 ∧ x1 ≤ 30) (k2 : 0 ≤ x2 ∧ x2 ≤ 24) (k3 : 0 ≤ x3 ∧ x3 ≤ 24) (k5 : 0 ≤ x5 ∧ x5 ≤ 30) (k6 : (-2) ≤ x6 ∧ x6 ≤ 26) (k7 : 1 ≤ x7 ∧ x7 ≤ 25) (d0 : x3 + 1 ≤ x7 ∧ x7 ≤ x3 + 1) (d1 : x1 + 0 ≤ x5 ∧ x5 ≤ x1 + 4294967296) (d2 : x1 + (-4294967296) ≤ x5 ∧ x5 ≤ x1 + 0) (f0 : x7 = x3 + 1) (f1 : x1 ≤ x5) (f2 : GOK (pn_0) (pm_0) (pt_0) (ph_0)) (f3 : STB (pn_0) (pm_0) (pt_0) (ph_0) (alive_0)) (f4 : STR (pn_0) (rowMany_0) (pt_0) (ph_0) (row_0)) (f5 : onlyPiece_0 = (-1)) (f6 : (-1) * rowMany_0 + ((-1) * x6 + 0) ≤ (-26)) (f7 : DRR (pn_0) (rowMany_0) (drawnNode_0) (row_0)) (f8 : DEM (pm_0) (pt_0) (ph_0) (drawnNode_0) (drawnEdge_0)) (f9 : UA (pm_0) (alive_0) (drawnEdge_0)) (f10 : (rowMany_0 + 1) ≤ pn_0) (f11 : BC1 (pn_0) (wayMany_0) (drawnNode_0) (way_0) (bestWay_0) (x1) (x5)) (f12 : 1 * x2 + ((-1) * pn_0 + 0) ≤ (-1)) (f13 : 1 * x3 + ((-1) * pn_0 + 0) ≤ (-1)) (f14 : drawnNode_0 (x2) ≠ 0) (hK_0_33 : ∀ j : Int, 0 ≤ j → j < 80 → 0 ≤ pt_0 j ∧ pt_0 j ≤ 24) (hK_0_34 : ∀ j : Int, 0 ≤ j → j < 80 → 0 ≤ ph_0 j ∧ ph_0 j ≤ 24) (hK_0_35 : ∀ j : Int, 0 ≤ j → j < 80 → 0 ≤ alive_0 j ∧ alive_0 j ≤ 1) (hK_0_42 : ∀ j : Int, 0 ≤ j → j < 26 → 0 ≤ drawnNode_0 j ∧ drawnNode_0 j ≤ 1) (hK_0_43 : ∀ j : Int, 0 ≤ j → j < 80 → 0 ≤ drawnEdge_0 j ∧ drawnEdge_0 j ≤ 1) (hK_0_44 : ∀ j : Int, 0 ≤ j → j < 80 → (-1) ≤ pieceOf_0 j ∧ pieceOf_0 j ≤ 79) (hK_0_46 : ∀ j : Int, 0 ≤ j → j < 30 → 0 ≤ way_0 j ∧ way_0 j ≤ 24) (hK_0_52 : ∀ j : Int, 0 ≤ j → j < 30 → 0 ≤ bestWay_0 j ∧ bestWay_0 j ≤ 24) (hK_0_117 : ∀ j : Int, 0 ≤ j → j < 100 → 0 ≤ row_0 j ∧ row_0 j ≤ 75) (kz_0_31 : 0 ≤ pn_0 ∧ pn_0 ≤ 25) (kz_0_32 : 0 ≤ pm_0 ∧ pm_0 ≤ 80) (kz_0_45 : 0 ≤ wayMany_0 ∧ wayMany_0 ≤ 30) (kz_0_49 : (-1) ≤ onlyPiece_0 ∧ onlyPiece_0 ≤ 79) (kz_0_125 : 0 ≤ rowMany_0 ∧ rowMany_0 ≤ 100) (ex2 : gx = 0 + (1 * x6 + 0)) (ex3 : (-2) ≤ gx ∧ gx ≤ 26) : (rowMany_0 + 1) ≤ pn_0 := by
  first
    | omega
    | (have h := ‹STB _ _ _ _ _›.1.2.2; omega)
    | (have h := ‹STR _ _ _ _ _›.1; omega)
    | (have h := ‹STR _ _ _ _ _›.1
       have w := ‹STR _ _ _ _ _›.2.1 x1 (by omega) (by omega)
       omega)
    | (have h := bc_len ‹BC1 _ _ _ _ _ _ _›
       have h2 := ‹STR _ _ _ _ _›.1
       omega)
    | (have h := (sb_way ‹SB1 _ _ _ _ _ _ _ _ _ _ _ _› (by omega)).1
       have h2 := ‹STR _ _ _ _ _›.1
       omega)
    | (have h := ‹WYM _ _ _ _›.1
       have h2 := ‹STR _ _ _ _ _›.1
       omega)
set_option maxHeartbeats 4000000 in
theorem vc_Mo_stOrder_33_9 (x1 : Int) (x2 : Int) (x3 : Int) (x5 : Int) (x6 : Int) (x7 : Int) (pt_0 : Int → Int) (ph_0 : Int → Int) (pn_0 : Int) (pm_0 : Int) (alive_0 : Int → Int) (row_0 : Int → Int) (rowMany_0 : Int) (onlyPiece_0 : Int) (drawnNode_0 : Int → Int) (drawnEdge_0 : Int → Int) (way_0 : Int → Int) (bestWay_0 : Int → Int) (wayMany_0 : Int) (pieceOf_0 : Int → Int) (gx : Int) (k1 : 0 ≤ x1 ∧ x1 ≤ 30) (k2 : 0 ≤ x2 ∧ x2 ≤ 24) (k3 : 0 ≤ x3 ∧ x3 ≤ 24) (k5 : 0 ≤ x5 ∧ x5 ≤ 30) (k6 : (-2) ≤ x6 ∧ x6 ≤ 26) (k7 : 1 ≤ x7 ∧ x7 ≤ 25) (d0 : x3 + 1 ≤ x7 ∧ x7 ≤ x3 + 1) (d1 : x1 + 0 ≤ x5 ∧ x5 ≤ x1 + 4294967296) (d2 : x1 + (-4294967296) ≤ x5 ∧ x5 ≤ x1 + 0) (f0 : x7 = x3 + 1) (f1 : x1 ≤ x5) (f2 : GOK (pn_0) (pm_0) (pt_0) (ph_0)) (f3 : STB (pn_0) (pm_0) (pt_0) (ph_0) (alive_0)) (f4 : STR (pn_0) (rowMany_0) (pt_0) (ph_0) (row_0)) (f5 : onlyPiece_0 = (-1)) (f6 : (-1) * rowMany_0 + ((-1) * x6 + 0) ≤ (-26)) (f7 : DRR (pn_0) (rowMany_0) (drawnNode_0) (row_0)) (f8 : DEM (pm_0) (pt_0) (ph_0) (drawnNode_0) (drawnEdge_0)) (f9 : UA (pm_0) (alive_0) (drawnEdge_0)) (f10 : (rowMany_0 + 1) ≤ pn_0) (f11 : BC1 (pn_0) (wayMany_0) (drawnNode_0) (way_0) (bestWay_0) (x1) (x5)) (f12 : 1 * x2 + ((-1) * pn_0 + 0) ≤ (-1)) (f13 : 1 * x3 + ((-1) * pn_0 + 0) ≤ (-1)) (f14 : drawnNode_0 (x2) ≠ 0) (hK_0_33 : ∀ j : Int, 0 ≤ j → j < 80 → 0 ≤ pt_0 j ∧ pt_0 j ≤ 24) (hK_0_34 : ∀ j : Int, 0 ≤ j → j < 80 → 0 ≤ ph_0 j ∧ ph_0 j ≤ 24) (hK_0_35 : ∀ j : Int, 0 ≤ j → j < 80 → 0 ≤ alive_0 j ∧ alive_0 j ≤ 1) (hK_0_42 : ∀ j : Int, 0 ≤ j → j < 26 → 0 ≤ drawnNode_0 j ∧ drawnNode_0 j ≤ 1) (hK_0_43 : ∀ j : Int, 0 ≤ j → j < 80 → 0 ≤ drawnEdge_0 j ∧ drawnEdge_0 j ≤ 1) (hK_0_44 : ∀ j : Int, 0 ≤ j → j < 80 → (-1) ≤ pieceOf_0 j ∧ pieceOf_0 j ≤ 79) (hK_0_46 : ∀ j : Int, 0 ≤ j → j < 30 → 0 ≤ way_0 j ∧ way_0 j ≤ 24) (hK_0_52 : ∀ j : Int, 0 ≤ j → j < 30 → 0 ≤ bestWay_0 j ∧ bestWay_0 j ≤ 24) (hK_0_117 : ∀ j : Int, 0 ≤ j → j < 100 → 0 ≤ row_0 j ∧ row_0 j ≤ 75) (kz_0_31 : 0 ≤ pn_0 ∧ pn_0 ≤ 25) (kz_0_32 : 0 ≤ pm_0 ∧ pm_0 ≤ 80) (kz_0_45 : 0 ≤ wayMany_0 ∧ wayMany_0 ≤ 30) (kz_0_49 : (-1) ≤ onlyPiece_0 ∧ onlyPiece_0 ≤ 79) (kz_0_125 : 0 ≤ rowMany_0 ∧ rowMany_0 ≤ 100) (ex2 : gx = 0 + (1 * x6 + 0)) (ex3 : (-2) ≤ gx ∧ gx ≤ 26) : SB1 (pn_0) (pm_0) (onlyPiece_0) (pt_0) (ph_0) (drawnEdge_0) (pieceOf_0) (drawnNode_0) (bestWay_0) (x1) (x2) (x7) := by
  first
    | exact sb_0 ‹SA1 _ _ _ _ _ _ _ _ _ _ _› (by omega)
    | exact sb_skip ‹SB1 _ _ _ _ _ _ _ _ _ _ _ _› (by omega) (Or.inl (by omega))
    | exact sb_skip ‹SB1 _ _ _ _ _ _ _ _ _ _ _ _› (by omega) (Or.inr (by omega))
    | exact sb_now ‹SB1 _ _ _ _ _ _ _ _ _ _ _ _› (by omega) ‹SHP _ _ _ _ _ _ _ _ _ _ _ _ _ _› (by omega) (by omega)
    | exact sb_any ‹SB1 _ _ _ _ _ _ _ _ _ _ _ _› (by omega)
    | exact Or.inr (bc_way ‹BC1 _ _ _ _ _ _ _› (by omega))
set_option maxHeartbeats 4000000 in
theorem vc_Mo_stOrder_33_10 (x1 : Int) (x2 : Int) (x3 : Int) (x5 : Int) (x6 : Int) (x7 : Int) (pt_0 : Int → Int) (ph_0 : Int → Int) (pn_0 : Int) (pm_0 : Int) (alive_0 : Int → Int) (row_0 : Int → Int) (rowMany_0 : Int) (onlyPiece_0 : Int) (drawnNode_0 : Int → Int) (drawnEdge_0 : Int → Int) (way_0 : Int → Int) (bestWay_0 : Int → Int) (wayMany_0 : Int) (pieceOf_0 : Int → Int) (gx : Int) (k1 : 0 ≤ x1 ∧ x1 ≤ 30) (k2 : 0 ≤ x2 ∧ x2 ≤ 24) (k3 : 0 ≤ x3 ∧ x3 ≤ 24) (k5 : 0 ≤ x5 ∧ x5 ≤ 30) (k6 : (-2) ≤ x6 ∧ x6 ≤ 26) (k7 : 1 ≤ x7 ∧ x7 ≤ 25) (d0 : x3 + 1 ≤ x7 ∧ x7 ≤ x3 + 1) (d1 : x1 + 0 ≤ x5 ∧ x5 ≤ x1 + 4294967296) (d2 : x1 + (-4294967296) ≤ x5 ∧ x5 ≤ x1 + 0) (f0 : x7 = x3 + 1) (f1 : x1 ≤ x5) (f2 : GOK (pn_0) (pm_0) (pt_0) (ph_0)) (f3 : STB (pn_0) (pm_0) (pt_0) (ph_0) (alive_0)) (f4 : STR (pn_0) (rowMany_0) (pt_0) (ph_0) (row_0)) (f5 : onlyPiece_0 = (-1)) (f6 : (-1) * rowMany_0 + ((-1) * x6 + 0) ≤ (-26)) (f7 : DRR (pn_0) (rowMany_0) (drawnNode_0) (row_0)) (f8 : DEM (pm_0) (pt_0) (ph_0) (drawnNode_0) (drawnEdge_0)) (f9 : UA (pm_0) (alive_0) (drawnEdge_0)) (f10 : (rowMany_0 + 1) ≤ pn_0) (f11 : BC1 (pn_0) (wayMany_0) (drawnNode_0) (way_0) (bestWay_0) (x1) (x5)) (f12 : 1 * x2 + ((-1) * pn_0 + 0) ≤ (-1)) (f13 : 1 * x3 + ((-1) * pn_0 + 0) ≤ (-1)) (f14 : drawnNode_0 (x2) ≠ 0) (hK_0_33 : ∀ j : Int, 0 ≤ j → j < 80 → 0 ≤ pt_0 j ∧ pt_0 j ≤ 24) (hK_0_34 : ∀ j : Int, 0 ≤ j → j < 80 → 0 ≤ ph_0 j ∧ ph_0 j ≤ 24) (hK_0_35 : ∀ j : Int, 0 ≤ j → j < 80 → 0 ≤ alive_0 j ∧ alive_0 j ≤ 1) (hK_0_42 : ∀ j : Int, 0 ≤ j → j < 26 → 0 ≤ drawnNode_0 j ∧ drawnNode_0 j ≤ 1) (hK_0_43 : ∀ j : Int, 0 ≤ j → j < 80 → 0 ≤ drawnEdge_0 j ∧ drawnEdge_0 j ≤ 1) (hK_0_44 : ∀ j : Int, 0 ≤ j → j < 80 → (-1) ≤ pieceOf_0 j ∧ pieceOf_0 j ≤ 79) (hK_0_46 : ∀ j : Int, 0 ≤ j → j < 30 → 0 ≤ way_0 j ∧ way_0 j ≤ 24) (hK_0_52 : ∀ j : Int, 0 ≤ j → j < 30 → 0 ≤ bestWay_0 j ∧ bestWay_0 j ≤ 24) (hK_0_117 : ∀ j : Int, 0 ≤ j → j < 100 → 0 ≤ row_0 j ∧ row_0 j ≤ 75) (kz_0_31 : 0 ≤ pn_0 ∧ pn_0 ≤ 25) (kz_0_32 : 0 ≤ pm_0 ∧ pm_0 ≤ 80) (kz_0_45 : 0 ≤ wayMany_0 ∧ wayMany_0 ≤ 30) (kz_0_49 : (-1) ≤ onlyPiece_0 ∧ onlyPiece_0 ≤ 79) (kz_0_125 : 0 ≤ rowMany_0 ∧ rowMany_0 ≤ 100) (ex2 : gx = 0 + (1 * x6 + 0)) (ex3 : (-2) ≤ gx ∧ gx ≤ 26) : 1 * x2 + ((-1) * pn_0 + 0) ≤ (-1) := by
  first
    | omega
    | (have h := ‹STB _ _ _ _ _›.1.2.2; omega)
    | (have h := ‹STR _ _ _ _ _›.1; omega)
    | (have h := ‹STR _ _ _ _ _›.1
       have w := ‹STR _ _ _ _ _›.2.1 x1 (by omega) (by omega)
       omega)
    | (have h := bc_len ‹BC1 _ _ _ _ _ _ _›
       have h2 := ‹STR _ _ _ _ _›.1
       omega)
    | (have h := (sb_way ‹SB1 _ _ _ _ _ _ _ _ _ _ _ _› (by omega)).1
       have h2 := ‹STR _ _ _ _ _›.1
       omega)
    | (have h := ‹WYM _ _ _ _›.1
       have h2 := ‹STR _ _ _ _ _›.1
       omega)
set_option maxHeartbeats 4000000 in
theorem vc_Mo_stOrder_33_11 (x1 : Int) (x2 : Int) (x3 : Int) (x5 : Int) (x6 : Int) (x7 : Int) (pt_0 : Int → Int) (ph_0 : Int → Int) (pn_0 : Int) (pm_0 : Int) (alive_0 : Int → Int) (row_0 : Int → Int) (rowMany_0 : Int) (onlyPiece_0 : Int) (drawnNode_0 : Int → Int) (drawnEdge_0 : Int → Int) (way_0 : Int → Int) (bestWay_0 : Int → Int) (wayMany_0 : Int) (pieceOf_0 : Int → Int) (gx : Int) (k1 : 0 ≤ x1 ∧ x1 ≤ 30) (k2 : 0 ≤ x2 ∧ x2 ≤ 24) (k3 : 0 ≤ x3 ∧ x3 ≤ 24) (k5 : 0 ≤ x5 ∧ x5 ≤ 30) (k6 : (-2) ≤ x6 ∧ x6 ≤ 26) (k7 : 1 ≤ x7 ∧ x7 ≤ 25) (d0 : x3 + 1 ≤ x7 ∧ x7 ≤ x3 + 1) (d1 : x1 + 0 ≤ x5 ∧ x5 ≤ x1 + 4294967296) (d2 : x1 + (-4294967296) ≤ x5 ∧ x5 ≤ x1 + 0) (f0 : x7 = x3 + 1) (f1 : x1 ≤ x5) (f2 : GOK (pn_0) (pm_0) (pt_0) (ph_0)) (f3 : STB (pn_0) (pm_0) (pt_0) (ph_0) (alive_0)) (f4 : STR (pn_0) (rowMany_0) (pt_0) (ph_0) (row_0)) (f5 : onlyPiece_0 = (-1)) (f6 : (-1) * rowMany_0 + ((-1) * x6 + 0) ≤ (-26)) (f7 : DRR (pn_0) (rowMany_0) (drawnNode_0) (row_0)) (f8 : DEM (pm_0) (pt_0) (ph_0) (drawnNode_0) (drawnEdge_0)) (f9 : UA (pm_0) (alive_0) (drawnEdge_0)) (f10 : (rowMany_0 + 1) ≤ pn_0) (f11 : BC1 (pn_0) (wayMany_0) (drawnNode_0) (way_0) (bestWay_0) (x1) (x5)) (f12 : 1 * x2 + ((-1) * pn_0 + 0) ≤ (-1)) (f13 : 1 * x3 + ((-1) * pn_0 + 0) ≤ (-1)) (f14 : drawnNode_0 (x2) ≠ 0) (hK_0_33 : ∀ j : Int, 0 ≤ j → j < 80 → 0 ≤ pt_0 j ∧ pt_0 j ≤ 24) (hK_0_34 : ∀ j : Int, 0 ≤ j → j < 80 → 0 ≤ ph_0 j ∧ ph_0 j ≤ 24) (hK_0_35 : ∀ j : Int, 0 ≤ j → j < 80 → 0 ≤ alive_0 j ∧ alive_0 j ≤ 1) (hK_0_42 : ∀ j : Int, 0 ≤ j → j < 26 → 0 ≤ drawnNode_0 j ∧ drawnNode_0 j ≤ 1) (hK_0_43 : ∀ j : Int, 0 ≤ j → j < 80 → 0 ≤ drawnEdge_0 j ∧ drawnEdge_0 j ≤ 1) (hK_0_44 : ∀ j : Int, 0 ≤ j → j < 80 → (-1) ≤ pieceOf_0 j ∧ pieceOf_0 j ≤ 79) (hK_0_46 : ∀ j : Int, 0 ≤ j → j < 30 → 0 ≤ way_0 j ∧ way_0 j ≤ 24) (hK_0_52 : ∀ j : Int, 0 ≤ j → j < 30 → 0 ≤ bestWay_0 j ∧ bestWay_0 j ≤ 24) (hK_0_117 : ∀ j : Int, 0 ≤ j → j < 100 → 0 ≤ row_0 j ∧ row_0 j ≤ 75) (kz_0_31 : 0 ≤ pn_0 ∧ pn_0 ≤ 25) (kz_0_32 : 0 ≤ pm_0 ∧ pm_0 ≤ 80) (kz_0_45 : 0 ≤ wayMany_0 ∧ wayMany_0 ≤ 30) (kz_0_49 : (-1) ≤ onlyPiece_0 ∧ onlyPiece_0 ≤ 79) (kz_0_125 : 0 ≤ rowMany_0 ∧ rowMany_0 ≤ 100) (ex2 : gx = 0 + (1 * x6 + 0)) (ex3 : (-2) ≤ gx ∧ gx ≤ 26) : drawnNode_0 (x2) ≠ 0 := by
  first
    | omega
    | (have h := ‹STB _ _ _ _ _›.1.2.2; omega)
    | (have h := ‹STR _ _ _ _ _›.1; omega)
    | (have h := ‹STR _ _ _ _ _›.1
       have w := ‹STR _ _ _ _ _›.2.1 x1 (by omega) (by omega)
       omega)
    | (have h := bc_len ‹BC1 _ _ _ _ _ _ _›
       have h2 := ‹STR _ _ _ _ _›.1
       omega)
    | (have h := (sb_way ‹SB1 _ _ _ _ _ _ _ _ _ _ _ _› (by omega)).1
       have h2 := ‹STR _ _ _ _ _›.1
       omega)
    | (have h := ‹WYM _ _ _ _›.1
       have h2 := ‹STR _ _ _ _ _›.1
       omega)
def o_Mo_stOrder_33 : or_T := (181, 8, [(0, (2, 0, 0, [165])), (1, (0, 0, 30, [])), (2, (0, 0, 24, [])), (3, (0, 0, 24, [])), (5, (0, 0, 30, [])), (6, (0, -2, 26, [])), (7, (0, 1, 25, []))], [(6, [7, 3], [1]), (7, [5, 1], [3]), (20, [0], [60, 2, 2, 75, 31, 32, 33, 34]), (20, [0], [60, 2, 3, 297, 31, 32, 33, 34, 35]), (20, [0], [60, 2, 3, 298, 31, 125, 33, 34, 117]), (20, [0], [50, 1, 0, 49, 1, 3, 2, 0, 49, 0, -1]), (20, [0, 6], [30, -26, -1, 1, 125, -1, 0, 0]), (20, [0], [60, 2, 2, 301, 31, 125, 42, 117]), (20, [0], [60, 1, 4, 303, 32, 33, 34, 42, 43]), (20, [0], [60, 1, 2, 122, 32, 35, 43]), (20, [0], [50, 2, 0, 125, 31, 0, 7, 4, 3, 2, 0, 125, 0, 1, 2, 0, 31]), (20, [0, 1, 5], [60, 2, 3, 307, 31, 45, 42, 46, 52]), (20, [2, 0], [30, -1, 1, 0, 0, -1, 1, 31]), (20, [3, 0], [30, -1, 1, 0, 0, -1, 1, 31]), (20, [0, 2], [50, 0, 1, 42, 7, 5, 3, 0, 42, 1, 1, 0, 0])], [], [(0, -2, 26, [])], [(20, [0], [60, 2, 2, 75, 31, 32, 33, 34]), (20, [0], [60, 2, 3, 297, 31, 32, 33, 34, 35]), (20, [0], [60, 2, 3, 298, 31, 125, 33, 34, 117]), (20, [0], [50, 1, 0, 49, 1, 3, 2, 0, 49, 0, -1]), (20, [0, 8], [30, -26, -1, 1, 125, -1, 0, 0]), (20, [0], [60, 2, 2, 301, 31, 125, 42, 117]), (20, [0], [60, 1, 4, 303, 32, 33, 34, 42, 43]), (20, [0], [60, 1, 2, 122, 32, 35, 43]), (20, [0], [50, 2, 0, 125, 31, 0, 7, 4, 3, 2, 0, 125, 0, 1, 2, 0, 31]), (20, [0, 1, 2, 7], [60, 3, 6, 306, 31, 32, 49, 33, 34, 43, 44, 42, 52]), (20, [2, 0], [30, -1, 1, 0, 0, -1, 1, 31]), (20, [0, 2], [50, 0, 1, 42, 7, 5, 3, 0, 42, 1, 1, 0, 0])], [(8, 6, 0, 0)], [(7, 3, 1, 1), (5, 1, 0, 4294967296), (5, 1, -4294967296, 0)])
theorem oo_Mo_stOrder_33 {kA : Nat → ClassId} : or_ok PRD kA GG o_Mo_stOrder_33 := by
  refine or_mk fun A ta ws vs hD hth hl => ?_
  intro t0 r0 t1 k1 t2 k2 t3 k3 t5 k5 t6 k6 t7 k7 d0 d1 d2 f0 f1 f2 f3 f4 f5 f6 f7 f8 f9 f10 f11 f12 f13 f14
  replace f0 := shm_4 f0
  replace f1 := shm_2 f1
  replace f2 := shm_575 f2
  replace f3 := shm_1749 f3
  replace f4 := shm_1001 f4
  replace f5 := shm_1675 f5
  replace f6 := shm_1750 f6
  replace f7 := shm_1755 f7
  replace f8 := shm_1757 f8
  replace f9 := shm_1455 f9
  replace f10 := shm_1752 f10
  replace f11 := shm_1763 f11
  replace f12 := shm_553 f12
  replace f13 := shm_553 f13
  replace f14 := shm_1762 f14
  have cr_0_33 := fdq_117 hD hth r0
  have cr_0_34 := fdq_118 hD hth r0
  have cr_0_35 := fdq_132 hD hth r0
  have cr_0_42 := fdq_136 hD hth r0
  have cr_0_43 := fdq_137 hD hth r0
  have cr_0_44 := fdq_138 hD hth r0
  have cr_0_46 := fdq_190 hD hth r0
  have cr_0_52 := fdq_236 hD hth r0
  have cr_0_117 := fdq_181 hD hth r0
  have hK_0_33 := elq_60 hD hth cr_0_33
  have hK_0_34 := elq_61 hD hth cr_0_34
  have hK_0_35 := elq_72 hD hth cr_0_35
  have hK_0_42 := elq_75 hD hth cr_0_42
  have hK_0_43 := elq_76 hD hth cr_0_43
  have hK_0_44 := elq_77 hD hth cr_0_44
  have hK_0_46 := elq_114 hD hth cr_0_46
  have hK_0_52 := elq_147 hD hth cr_0_52
  have hK_0_117 := elq_108 hD hth cr_0_117
  have kz_0_31 := fdq_145 hD hth r0
  have kz_0_32 := fdq_140 hD hth r0
  have kz_0_45 := fdq_191 hD hth r0
  have kz_0_49 := fdq_146 hD hth r0
  have kz_0_125 := fdq_182 hD hth r0
  obtain ⟨x, ex, hx⟩ := iv_ex (ta := ta) (lo := (-2)) (hi := 26) (z := 0 + (1 * v_iv (n_v vs 6) + 0)) (by omega) (by omega) (by omega) (by omega)
  have ex2 : v_iv (Value.int x) = 0 + (1 * v_iv (n_v vs 6) + 0) := ex
  have ex3 : (-2) ≤ v_iv (Value.int x) ∧ v_iv (Value.int x) ≤ 26 := tv_rng hx
  have e_0 : n_v (vs ++ [Value.int x]) 0 = n_v vs 0 := n_v_old (by rw [hl]; decide)
  have e_1 : n_v (vs ++ [Value.int x]) 1 = n_v vs 1 := n_v_old (by rw [hl]; decide)
  have e_2 : n_v (vs ++ [Value.int x]) 2 = n_v vs 2 := n_v_old (by rw [hl]; decide)
  have e_7 : n_v (vs ++ [Value.int x]) 7 = n_v vs 7 := n_v_old (by rw [hl]; decide)
  have e_8 : n_v (vs ++ [Value.int x]) 8 = Value.int x := n_v_new hl
  have nf0 : fc_1 PRD (20, [0], [60, 2, 2, 75, 31, 32, 33, 34]) ws (vs ++ [Value.int x]) := by
    refine ⟨nf_inA hl rfl, sgq_575 ?_⟩
    · show GOK (w_fi ws (n_v (vs ++ [Value.int x]) 0) 31) (w_fi ws (n_v (vs ++ [Value.int x]) 0) 32) (w_ei ws (w_ar ws (n_v (vs ++ [Value.int x]) 0) 33)) (w_ei ws (w_ar ws (n_v (vs ++ [Value.int x]) 0) 34))
      rw [e_0]
      exact vc_Mo_stOrder_33_0 (v_iv (n_v vs 1)) (v_iv (n_v vs 2)) (v_iv (n_v vs 3)) (v_iv (n_v vs 5)) (v_iv (n_v vs 6)) (v_iv (n_v vs 7)) (w_ei ws (w_ar ws (n_v vs 0) 33)) (w_ei ws (w_ar ws (n_v vs 0) 34)) (w_fi ws (n_v vs 0) 31) (w_fi ws (n_v vs 0) 32) (w_ei ws (w_ar ws (n_v vs 0) 35)) (w_ei ws (w_ar ws (n_v vs 0) 117)) (w_fi ws (n_v vs 0) 125) (w_fi ws (n_v vs 0) 49) (w_ei ws (w_ar ws (n_v vs 0) 42)) (w_ei ws (w_ar ws (n_v vs 0) 43)) (w_ei ws (w_ar ws (n_v vs 0) 46)) (w_ei ws (w_ar ws (n_v vs 0) 52)) (w_fi ws (n_v vs 0) 45) (w_ei ws (w_ar ws (n_v vs 0) 44)) (v_iv (Value.int x)) k1 k2 k3 k5 k6 k7 d0 d1 d2 f0 f1 f2 f3 f4 f5 f6 f7 f8 f9 f10 f11 f12 f13 f14 hK_0_33 hK_0_34 hK_0_35 hK_0_42 hK_0_43 hK_0_44 hK_0_46 hK_0_52 hK_0_117 kz_0_31 kz_0_32 kz_0_45 kz_0_49 kz_0_125 ex2 ex3
  have nf1 : fc_1 PRD (20, [0], [60, 2, 3, 297, 31, 32, 33, 34, 35]) ws (vs ++ [Value.int x]) := by
    refine ⟨nf_inA hl rfl, sgq_1749 ?_⟩
    · show STB (w_fi ws (n_v (vs ++ [Value.int x]) 0) 31) (w_fi ws (n_v (vs ++ [Value.int x]) 0) 32) (w_ei ws (w_ar ws (n_v (vs ++ [Value.int x]) 0) 33)) (w_ei ws (w_ar ws (n_v (vs ++ [Value.int x]) 0) 34)) (w_ei ws (w_ar ws (n_v (vs ++ [Value.int x]) 0) 35))
      rw [e_0]
      exact vc_Mo_stOrder_33_1 (v_iv (n_v vs 1)) (v_iv (n_v vs 2)) (v_iv (n_v vs 3)) (v_iv (n_v vs 5)) (v_iv (n_v vs 6)) (v_iv (n_v vs 7)) (w_ei ws (w_ar ws (n_v vs 0) 33)) (w_ei ws (w_ar ws (n_v vs 0) 34)) (w_fi ws (n_v vs 0) 31) (w_fi ws (n_v vs 0) 32) (w_ei ws (w_ar ws (n_v vs 0) 35)) (w_ei ws (w_ar ws (n_v vs 0) 117)) (w_fi ws (n_v vs 0) 125) (w_fi ws (n_v vs 0) 49) (w_ei ws (w_ar ws (n_v vs 0) 42)) (w_ei ws (w_ar ws (n_v vs 0) 43)) (w_ei ws (w_ar ws (n_v vs 0) 46)) (w_ei ws (w_ar ws (n_v vs 0) 52)) (w_fi ws (n_v vs 0) 45) (w_ei ws (w_ar ws (n_v vs 0) 44)) (v_iv (Value.int x)) k1 k2 k3 k5 k6 k7 d0 d1 d2 f0 f1 f2 f3 f4 f5 f6 f7 f8 f9 f10 f11 f12 f13 f14 hK_0_33 hK_0_34 hK_0_35 hK_0_42 hK_0_43 hK_0_44 hK_0_46 hK_0_52 hK_0_117 kz_0_31 kz_0_32 kz_0_45 kz_0_49 kz_0_125 ex2 ex3
  have nf2 : fc_1 PRD (20, [0], [60, 2, 3, 298, 31, 125, 33, 34, 117]) ws (vs ++ [Value.int x]) := by
    refine ⟨nf_inA hl rfl, sgq_1001 ?_⟩
    · show STR (w_fi ws (n_v (vs ++ [Value.int x]) 0) 31) (w_fi ws (n_v (vs ++ [Value.int x]) 0) 125) (w_ei ws (w_ar ws (n_v (vs ++ [Value.int x]) 0) 33)) (w_ei ws (w_ar ws (n_v (vs ++ [Value.int x]) 0) 34)) (w_ei ws (w_ar ws (n_v (vs ++ [Value.int x]) 0) 117))
      rw [e_0]
      exact vc_Mo_stOrder_33_2 (v_iv (n_v vs 1)) (v_iv (n_v vs 2)) (v_iv (n_v vs 3)) (v_iv (n_v vs 5)) (v_iv (n_v vs 6)) (v_iv (n_v vs 7)) (w_ei ws (w_ar ws (n_v vs 0) 33)) (w_ei ws (w_ar ws (n_v vs 0) 34)) (w_fi ws (n_v vs 0) 31) (w_fi ws (n_v vs 0) 32) (w_ei ws (w_ar ws (n_v vs 0) 35)) (w_ei ws (w_ar ws (n_v vs 0) 117)) (w_fi ws (n_v vs 0) 125) (w_fi ws (n_v vs 0) 49) (w_ei ws (w_ar ws (n_v vs 0) 42)) (w_ei ws (w_ar ws (n_v vs 0) 43)) (w_ei ws (w_ar ws (n_v vs 0) 46)) (w_ei ws (w_ar ws (n_v vs 0) 52)) (w_fi ws (n_v vs 0) 45) (w_ei ws (w_ar ws (n_v vs 0) 44)) (v_iv (Value.int x)) k1 k2 k3 k5 k6 k7 d0 d1 d2 f0 f1 f2 f3 f4 f5 f6 f7 f8 f9 f10 f11 f12 f13 f14 hK_0_33 hK_0_34 hK_0_35 hK_0_42 hK_0_43 hK_0_44 hK_0_46 hK_0_52 hK_0_117 kz_0_31 kz_0_32 kz_0_45 kz_0_49 kz_0_125 ex2 ex3
  have nf3 : fc_1 PRD (20, [0], [50, 1, 0, 49, 1, 3, 2, 0, 49, 0, -1]) ws (vs ++ [Value.int x]) := by
    refine ⟨nf_inA hl rfl, sgq_1675 ?_⟩
    · show w_fi ws (n_v (vs ++ [Value.int x]) 0) 49 = (-1)
      rw [e_0]
      exact vc_Mo_stOrder_33_3 (v_iv (n_v vs 1)) (v_iv (n_v vs 2)) (v_iv (n_v vs 3)) (v_iv (n_v vs 5)) (v_iv (n_v vs 6)) (v_iv (n_v vs 7)) (w_ei ws (w_ar ws (n_v vs 0) 33)) (w_ei ws (w_ar ws (n_v vs 0) 34)) (w_fi ws (n_v vs 0) 31) (w_fi ws (n_v vs 0) 32) (w_ei ws (w_ar ws (n_v vs 0) 35)) (w_ei ws (w_ar ws (n_v vs 0) 117)) (w_fi ws (n_v vs 0) 125) (w_fi ws (n_v vs 0) 49) (w_ei ws (w_ar ws (n_v vs 0) 42)) (w_ei ws (w_ar ws (n_v vs 0) 43)) (w_ei ws (w_ar ws (n_v vs 0) 46)) (w_ei ws (w_ar ws (n_v vs 0) 52)) (w_fi ws (n_v vs 0) 45) (w_ei ws (w_ar ws (n_v vs 0) 44)) (v_iv (Value.int x)) k1 k2 k3 k5 k6 k7 d0 d1 d2 f0 f1 f2 f3 f4 f5 f6 f7 f8 f9 f10 f11 f12 f13 f14 hK_0_33 hK_0_34 hK_0_35 hK_0_42 hK_0_43 hK_0_44 hK_0_46 hK_0_52 hK_0_117 kz_0_31 kz_0_32 kz_0_45 kz_0_49 kz_0_125 ex2 ex3
  have nf4 : fc_1 PRD (20, [0, 8], [30, -26, -1, 1, 125, -1, 0, 0]) ws (vs ++ [Value.int x]) := by
    refine ⟨nf_inA hl rfl, sgq_1750 ?_⟩
    · show (-1) * w_fi ws (n_v (vs ++ [Value.int x]) 0) 125 + ((-1) * v_iv (n_v (vs ++ [Value.int x]) 8) + 0) ≤ (-26)
      simp only [e_0, e_8]
      exact vc_Mo_stOrder_33_4 (v_iv (n_v vs 1)) (v_iv (n_v vs 2)) (v_iv (n_v vs 3)) (v_iv (n_v vs 5)) (v_iv (n_v vs 6)) (v_iv (n_v vs 7)) (w_ei ws (w_ar ws (n_v vs 0) 33)) (w_ei ws (w_ar ws (n_v vs 0) 34)) (w_fi ws (n_v vs 0) 31) (w_fi ws (n_v vs 0) 32) (w_ei ws (w_ar ws (n_v vs 0) 35)) (w_ei ws (w_ar ws (n_v vs 0) 117)) (w_fi ws (n_v vs 0) 125) (w_fi ws (n_v vs 0) 49) (w_ei ws (w_ar ws (n_v vs 0) 42)) (w_ei ws (w_ar ws (n_v vs 0) 43)) (w_ei ws (w_ar ws (n_v vs 0) 46)) (w_ei ws (w_ar ws (n_v vs 0) 52)) (w_fi ws (n_v vs 0) 45) (w_ei ws (w_ar ws (n_v vs 0) 44)) (v_iv (Value.int x)) k1 k2 k3 k5 k6 k7 d0 d1 d2 f0 f1 f2 f3 f4 f5 f6 f7 f8 f9 f10 f11 f12 f13 f14 hK_0_33 hK_0_34 hK_0_35 hK_0_42 hK_0_43 hK_0_44 hK_0_46 hK_0_52 hK_0_117 kz_0_31 kz_0_32 kz_0_45 kz_0_49 kz_0_125 ex2 ex3
  have nf5 : fc_1 PRD (20, [0], [60, 2, 2, 301, 31, 125, 42, 117]) ws (vs ++ [Value.int x]) := by
    refine ⟨nf_inA hl rfl, sgq_1755 ?_⟩
    · show DRR (w_fi ws (n_v (vs ++ [Value.int x]) 0) 31) (w_fi ws (n_v (vs ++ [Value.int x]) 0) 125) (w_ei ws (w_ar ws (n_v (vs ++ [Value.int x]) 0) 42)) (w_ei ws (w_ar ws (n_v (vs ++ [Value.int x]) 0) 117))
      rw [e_0]
      exact vc_Mo_stOrder_33_5 (v_iv (n_v vs 1)) (v_iv (n_v vs 2)) (v_iv (n_v vs 3)) (v_iv (n_v vs 5)) (v_iv (n_v vs 6)) (v_iv (n_v vs 7)) (w_ei ws (w_ar ws (n_v vs 0) 33)) (w_ei ws (w_ar ws (n_v vs 0) 34)) (w_fi ws (n_v vs 0) 31) (w_fi ws (n_v vs 0) 32) (w_ei ws (w_ar ws (n_v vs 0) 35)) (w_ei ws (w_ar ws (n_v vs 0) 117)) (w_fi ws (n_v vs 0) 125) (w_fi ws (n_v vs 0) 49) (w_ei ws (w_ar ws (n_v vs 0) 42)) (w_ei ws (w_ar ws (n_v vs 0) 43)) (w_ei ws (w_ar ws (n_v vs 0) 46)) (w_ei ws (w_ar ws (n_v vs 0) 52)) (w_fi ws (n_v vs 0) 45) (w_ei ws (w_ar ws (n_v vs 0) 44)) (v_iv (Value.int x)) k1 k2 k3 k5 k6 k7 d0 d1 d2 f0 f1 f2 f3 f4 f5 f6 f7 f8 f9 f10 f11 f12 f13 f14 hK_0_33 hK_0_34 hK_0_35 hK_0_42 hK_0_43 hK_0_44 hK_0_46 hK_0_52 hK_0_117 kz_0_31 kz_0_32 kz_0_45 kz_0_49 kz_0_125 ex2 ex3
  have nf6 : fc_1 PRD (20, [0], [60, 1, 4, 303, 32, 33, 34, 42, 43]) ws (vs ++ [Value.int x]) := by
    refine ⟨nf_inA hl rfl, sgq_1757 ?_⟩
    · show DEM (w_fi ws (n_v (vs ++ [Value.int x]) 0) 32) (w_ei ws (w_ar ws (n_v (vs ++ [Value.int x]) 0) 33)) (w_ei ws (w_ar ws (n_v (vs ++ [Value.int x]) 0) 34)) (w_ei ws (w_ar ws (n_v (vs ++ [Value.int x]) 0) 42)) (w_ei ws (w_ar ws (n_v (vs ++ [Value.int x]) 0) 43))
      rw [e_0]
      exact vc_Mo_stOrder_33_6 (v_iv (n_v vs 1)) (v_iv (n_v vs 2)) (v_iv (n_v vs 3)) (v_iv (n_v vs 5)) (v_iv (n_v vs 6)) (v_iv (n_v vs 7)) (w_ei ws (w_ar ws (n_v vs 0) 33)) (w_ei ws (w_ar ws (n_v vs 0) 34)) (w_fi ws (n_v vs 0) 31) (w_fi ws (n_v vs 0) 32) (w_ei ws (w_ar ws (n_v vs 0) 35)) (w_ei ws (w_ar ws (n_v vs 0) 117)) (w_fi ws (n_v vs 0) 125) (w_fi ws (n_v vs 0) 49) (w_ei ws (w_ar ws (n_v vs 0) 42)) (w_ei ws (w_ar ws (n_v vs 0) 43)) (w_ei ws (w_ar ws (n_v vs 0) 46)) (w_ei ws (w_ar ws (n_v vs 0) 52)) (w_fi ws (n_v vs 0) 45) (w_ei ws (w_ar ws (n_v vs 0) 44)) (v_iv (Value.int x)) k1 k2 k3 k5 k6 k7 d0 d1 d2 f0 f1 f2 f3 f4 f5 f6 f7 f8 f9 f10 f11 f12 f13 f14 hK_0_33 hK_0_34 hK_0_35 hK_0_42 hK_0_43 hK_0_44 hK_0_46 hK_0_52 hK_0_117 kz_0_31 kz_0_32 kz_0_45 kz_0_49 kz_0_125 ex2 ex3
  have nf7 : fc_1 PRD (20, [0], [60, 1, 2, 122, 32, 35, 43]) ws (vs ++ [Value.int x]) := by
    refine ⟨nf_inA hl rfl, sgq_1455 ?_⟩
    · show UA (w_fi ws (n_v (vs ++ [Value.int x]) 0) 32) (w_ei ws (w_ar ws (n_v (vs ++ [Value.int x]) 0) 35)) (w_ei ws (w_ar ws (n_v (vs ++ [Value.int x]) 0) 43))
      rw [e_0]
      exact vc_Mo_stOrder_33_7 (v_iv (n_v vs 1)) (v_iv (n_v vs 2)) (v_iv (n_v vs 3)) (v_iv (n_v vs 5)) (v_iv (n_v vs 6)) (v_iv (n_v vs 7)) (w_ei ws (w_ar ws (n_v vs 0) 33)) (w_ei ws (w_ar ws (n_v vs 0) 34)) (w_fi ws (n_v vs 0) 31) (w_fi ws (n_v vs 0) 32) (w_ei ws (w_ar ws (n_v vs 0) 35)) (w_ei ws (w_ar ws (n_v vs 0) 117)) (w_fi ws (n_v vs 0) 125) (w_fi ws (n_v vs 0) 49) (w_ei ws (w_ar ws (n_v vs 0) 42)) (w_ei ws (w_ar ws (n_v vs 0) 43)) (w_ei ws (w_ar ws (n_v vs 0) 46)) (w_ei ws (w_ar ws (n_v vs 0) 52)) (w_fi ws (n_v vs 0) 45) (w_ei ws (w_ar ws (n_v vs 0) 44)) (v_iv (Value.int x)) k1 k2 k3 k5 k6 k7 d0 d1 d2 f0 f1 f2 f3 f4 f5 f6 f7 f8 f9 f10 f11 f12 f13 f14 hK_0_33 hK_0_34 hK_0_35 hK_0_42 hK_0_43 hK_0_44 hK_0_46 hK_0_52 hK_0_117 kz_0_31 kz_0_32 kz_0_45 kz_0_49 kz_0_125 ex2 ex3
  have nf8 : fc_1 PRD (20, [0], [50, 2, 0, 125, 31, 0, 7, 4, 3, 2, 0, 125, 0, 1, 2, 0, 31]) ws (vs ++ [Value.int x]) := by
    refine ⟨nf_inA hl rfl, sgq_1752 ?_⟩
    · show (w_fi ws (n_v (vs ++ [Value.int x]) 0) 125 + 1) ≤ w_fi ws (n_v (vs ++ [Value.int x]) 0) 31
      rw [e_0]
      exact vc_Mo_stOrder_33_8 (v_iv (n_v vs 1)) (v_iv (n_v vs 2)) (v_iv (n_v vs 3)) (v_iv (n_v vs 5)) (v_iv (n_v vs 6)) (v_iv (n_v vs 7)) (w_ei ws (w_ar ws (n_v vs 0) 33)) (w_ei ws (w_ar ws (n_v vs 0) 34)) (w_fi ws (n_v vs 0) 31) (w_fi ws (n_v vs 0) 32) (w_ei ws (w_ar ws (n_v vs 0) 35)) (w_ei ws (w_ar ws (n_v vs 0) 117)) (w_fi ws (n_v vs 0) 125) (w_fi ws (n_v vs 0) 49) (w_ei ws (w_ar ws (n_v vs 0) 42)) (w_ei ws (w_ar ws (n_v vs 0) 43)) (w_ei ws (w_ar ws (n_v vs 0) 46)) (w_ei ws (w_ar ws (n_v vs 0) 52)) (w_fi ws (n_v vs 0) 45) (w_ei ws (w_ar ws (n_v vs 0) 44)) (v_iv (Value.int x)) k1 k2 k3 k5 k6 k7 d0 d1 d2 f0 f1 f2 f3 f4 f5 f6 f7 f8 f9 f10 f11 f12 f13 f14 hK_0_33 hK_0_34 hK_0_35 hK_0_42 hK_0_43 hK_0_44 hK_0_46 hK_0_52 hK_0_117 kz_0_31 kz_0_32 kz_0_45 kz_0_49 kz_0_125 ex2 ex3
  have nf9 : fc_1 PRD (20, [0, 1, 2, 7], [60, 3, 6, 306, 31, 32, 49, 33, 34, 43, 44, 42, 52]) ws (vs ++ [Value.int x]) := by
    refine ⟨nf_inA hl rfl, sgq_1761 ?_⟩
    · show SB1 (w_fi ws (n_v (vs ++ [Value.int x]) 0) 31) (w_fi ws (n_v (vs ++ [Value.int x]) 0) 32) (w_fi ws (n_v (vs ++ [Value.int x]) 0) 49) (w_ei ws (w_ar ws (n_v (vs ++ [Value.int x]) 0) 33)) (w_ei ws (w_ar ws (n_v (vs ++ [Value.int x]) 0) 34)) (w_ei ws (w_ar ws (n_v (vs ++ [Value.int x]) 0) 43)) (w_ei ws (w_ar ws (n_v (vs ++ [Value.int x]) 0) 44)) (w_ei ws (w_ar ws (n_v (vs ++ [Value.int x]) 0) 42)) (w_ei ws (w_ar ws (n_v (vs ++ [Value.int x]) 0) 52)) (v_iv (n_v (vs ++ [Value.int x]) 1)) (v_iv (n_v (vs ++ [Value.int x]) 2)) (v_iv (n_v (vs ++ [Value.int x]) 7))
      simp only [e_0, e_1, e_2, e_7]
      exact vc_Mo_stOrder_33_9 (v_iv (n_v vs 1)) (v_iv (n_v vs 2)) (v_iv (n_v vs 3)) (v_iv (n_v vs 5)) (v_iv (n_v vs 6)) (v_iv (n_v vs 7)) (w_ei ws (w_ar ws (n_v vs 0) 33)) (w_ei ws (w_ar ws (n_v vs 0) 34)) (w_fi ws (n_v vs 0) 31) (w_fi ws (n_v vs 0) 32) (w_ei ws (w_ar ws (n_v vs 0) 35)) (w_ei ws (w_ar ws (n_v vs 0) 117)) (w_fi ws (n_v vs 0) 125) (w_fi ws (n_v vs 0) 49) (w_ei ws (w_ar ws (n_v vs 0) 42)) (w_ei ws (w_ar ws (n_v vs 0) 43)) (w_ei ws (w_ar ws (n_v vs 0) 46)) (w_ei ws (w_ar ws (n_v vs 0) 52)) (w_fi ws (n_v vs 0) 45) (w_ei ws (w_ar ws (n_v vs 0) 44)) (v_iv (Value.int x)) k1 k2 k3 k5 k6 k7 d0 d1 d2 f0 f1 f2 f3 f4 f5 f6 f7 f8 f9 f10 f11 f12 f13 f14 hK_0_33 hK_0_34 hK_0_35 hK_0_42 hK_0_43 hK_0_44 hK_0_46 hK_0_52 hK_0_117 kz_0_31 kz_0_32 kz_0_45 kz_0_49 kz_0_125 ex2 ex3
  have nf10 : fc_1 PRD (20, [2, 0], [30, -1, 1, 0, 0, -1, 1, 31]) ws (vs ++ [Value.int x]) := by
    refine ⟨nf_inA hl rfl, sgq_553 ?_⟩
    · show 1 * v_iv (n_v (vs ++ [Value.int x]) 2) + ((-1) * w_fi ws (n_v (vs ++ [Value.int x]) 0) 31 + 0) ≤ (-1)
      simp only [e_0, e_2]
      exact vc_Mo_stOrder_33_10 (v_iv (n_v vs 1)) (v_iv (n_v vs 2)) (v_iv (n_v vs 3)) (v_iv (n_v vs 5)) (v_iv (n_v vs 6)) (v_iv (n_v vs 7)) (w_ei ws (w_ar ws (n_v vs 0) 33)) (w_ei ws (w_ar ws (n_v vs 0) 34)) (w_fi ws (n_v vs 0) 31) (w_fi ws (n_v vs 0) 32) (w_ei ws (w_ar ws (n_v vs 0) 35)) (w_ei ws (w_ar ws (n_v vs 0) 117)) (w_fi ws (n_v vs 0) 125) (w_fi ws (n_v vs 0) 49) (w_ei ws (w_ar ws (n_v vs 0) 42)) (w_ei ws (w_ar ws (n_v vs 0) 43)) (w_ei ws (w_ar ws (n_v vs 0) 46)) (w_ei ws (w_ar ws (n_v vs 0) 52)) (w_fi ws (n_v vs 0) 45) (w_ei ws (w_ar ws (n_v vs 0) 44)) (v_iv (Value.int x)) k1 k2 k3 k5 k6 k7 d0 d1 d2 f0 f1 f2 f3 f4 f5 f6 f7 f8 f9 f10 f11 f12 f13 f14 hK_0_33 hK_0_34 hK_0_35 hK_0_42 hK_0_43 hK_0_44 hK_0_46 hK_0_52 hK_0_117 kz_0_31 kz_0_32 kz_0_45 kz_0_49 kz_0_125 ex2 ex3
  have nf11 : fc_1 PRD (20, [0, 2], [50, 0, 1, 42, 7, 5, 3, 0, 42, 1, 1, 0, 0]) ws (vs ++ [Value.int x]) := by
    refine ⟨nf_inA hl rfl, sgq_1762 ?_⟩
    · show w_ei ws (w_ar ws (n_v (vs ++ [Value.int x]) 0) 42) (v_iv (n_v (vs ++ [Value.int x]) 2)) ≠ 0
      simp only [e_0, e_2]
      exact vc_Mo_stOrder_33_11 (v_iv (n_v vs 1)) (v_iv (n_v vs 2)) (v_iv (n_v vs 3)) (v_iv (n_v vs 5)) (v_iv (n_v vs 6)) (v_iv (n_v vs 7)) (w_ei ws (w_ar ws (n_v vs 0) 33)) (w_ei ws (w_ar ws (n_v vs 0) 34)) (w_fi ws (n_v vs 0) 31) (w_fi ws (n_v vs 0) 32) (w_ei ws (w_ar ws (n_v vs 0) 35)) (w_ei ws (w_ar ws (n_v vs 0) 117)) (w_fi ws (n_v vs 0) 125) (w_fi ws (n_v vs 0) 49) (w_ei ws (w_ar ws (n_v vs 0) 42)) (w_ei ws (w_ar ws (n_v vs 0) 43)) (w_ei ws (w_ar ws (n_v vs 0) 46)) (w_ei ws (w_ar ws (n_v vs 0) 52)) (w_fi ws (n_v vs 0) 45) (w_ei ws (w_ar ws (n_v vs 0) 44)) (v_iv (Value.int x)) k1 k2 k3 k5 k6 k7 d0 d1 d2 f0 f1 f2 f3 f4 f5 f6 f7 f8 f9 f10 f11 f12 f13 f14 hK_0_33 hK_0_34 hK_0_35 hK_0_42 hK_0_43 hK_0_44 hK_0_46 hK_0_52 hK_0_117 kz_0_31 kz_0_32 kz_0_45 kz_0_49 kz_0_125 ex2 ex3
  obtain ⟨x0, e0, _, _⟩ := tv_int t6 rfl
  have e1 : v_iv (n_v vs 6) = x0.toInt := by rw [e0]; rfl
  have ho : sy_ofs (vs ++ [Value.int x]) (8, 6, 0, 0) := by
    refine ⟨x, x0, by rw [List.getElem?_append_right (by rw [hl]; decide), hl]; rfl, ?_, ?_, ?_⟩
    · rw [List.getElem?_append_left (by rw [hl]; decide)]; exact n_v_some (by rw [hl]; decide) e0
    · show x0.toInt + 0 ≤ x.toInt; omega
    · show x.toInt ≤ x0.toInt + 0; omega
  exact ⟨(fun _ h => (by cases h)), [Value.int x], ag_one hx, List.forall_mem_cons.mpr ⟨⟨show (20 : Nat) < 100 from by decide, nf0⟩, List.forall_mem_cons.mpr ⟨⟨show (20 : Nat) < 100 from by decide, nf1⟩, List.forall_mem_cons.mpr ⟨⟨show (20 : Nat) < 100 from by decide, nf2⟩, List.forall_mem_cons.mpr ⟨⟨show (20 : Nat) < 100 from by decide, nf3⟩, List.forall_mem_cons.mpr ⟨⟨show (20 : Nat) < 100 from by decide, nf4⟩, List.forall_mem_cons.mpr ⟨⟨show (20 : Nat) < 100 from by decide, nf5⟩, List.forall_mem_cons.mpr ⟨⟨show (20 : Nat) < 100 from by decide, nf6⟩, List.forall_mem_cons.mpr ⟨⟨show (20 : Nat) < 100 from by decide, nf7⟩, List.forall_mem_cons.mpr ⟨⟨show (20 : Nat) < 100 from by decide, nf8⟩, List.forall_mem_cons.mpr ⟨⟨show (20 : Nat) < 100 from by decide, nf9⟩, List.forall_mem_cons.mpr ⟨⟨show (20 : Nat) < 100 from by decide, nf10⟩, List.forall_mem_cons.mpr ⟨⟨show (20 : Nat) < 100 from by decide, nf11⟩, (fun _ h => (by cases h))⟩⟩⟩⟩⟩⟩⟩⟩⟩⟩⟩⟩, List.forall_mem_cons.mpr ⟨ho, (fun _ h => (by cases h))⟩⟩
set_option maxHeartbeats 4000000 in
theorem vc_Mo_stOrder_34_0 (x1 : Int) (x2 : Int) (x3 : Int) (x5 : Int) (x6 : Int) (x9 : Int) (x10 : Int) (pt_0 : Int → Int) (ph_0 : Int → Int) (pn_0 : Int) (pm_0 : Int) (alive_0 : Int → Int) (row_0 : Int → Int) (rowMany_0 : Int) (onlyPiece_0 : Int) (drawnNode_0 : Int → Int) (drawnEdge_0 : Int → Int) (way_1 : Int → Int) (pt_1 : Int → Int) (ph_1 : Int → Int) (pn_1 : Int) (pm_1 : Int) (alive_1 : Int → Int) (row_1 : Int → Int) (rowMany_1 : Int) (onlyPiece_1 : Int) (drawnNode_1 : Int → Int) (drawnEdge_1 : Int → Int) (bestWay_1 : Int → Int) (wayMany_1 : Int) (wayMany_0 : Int) (way_0 : Int → Int) (bestWay_0 : Int → Int) (k1 : 1 ≤ x1 ∧ x1 ≤ 30) (k2 : 0 ≤ x2 ∧ x2 ≤ 24) (k3 : 0 ≤ x3 ∧ x3 ≤ 24) (k5 : 0 ≤ x5 ∧ x5 ≤ 29) (k6 : (-2) ≤ x6 ∧ x6 ≤ 26) (k9 : 0 ≤ x9 ∧ x9 ≤ 24) (k10 : 1 ≤ x10 ∧ x10 ≤ 30) (d0 : x5 + 1 ≤ x10 ∧ x10 ≤ x5 + 1) (d1 : x1 + (-4294967296) ≤ x10 ∧ x10 ≤ x1 + 0) (d2 : x1 + (-4294967296) ≤ x10 ∧ x10 ≤ x1 + 1) (d3 : x1 + (-4294967296) ≤ x5 ∧ x5 ≤ x1 + (-1)) (d4 : x1 + (-4294967296) ≤ x5 ∧ x5 ≤ x1 + 0) (f0 : x10 = x5 + 1) (f1 : GOK (pn_0) (pm_0) (pt_0) (ph_0)) (f2 : STB (pn_0) (pm_0) (pt_0) (ph_0) (alive_0)) (f3 : STR (pn_0) (rowMany_0) (pt_0) (ph_0) (row_0)) (f4 : onlyPiece_0 = (-1)) (f5 : (-1) * rowMany_0 + ((-1) * x6 + 0) ≤ (-26)) (f6 : DRR (pn_0) (rowMany_0) (drawnNode_0) (row_0)) (f7 : DEM (pm_0) (pt_0) (ph_0) (drawnNode_0) (drawnEdge_0)) (f8 : UA (pm_0) (alive_0) (drawnEdge_0)) (f9 : (rowMany_0 + 1) ≤ pn_0) (f10 : 1 * x2 + ((-1) * pn_0 + 0) ≤ (-1)) (f11 : 1 * x3 + ((-1) * pn_0 + 0) ≤ (-1)) (f12 : drawnNode_0 (x2) ≠ 0) (h14 : x9 = way_1 (x5)) (f17 : x5 < x1) (f18 : GOK (pn_1) (pm_1) (pt_1) (ph_1)) (f19 : STB (pn_1) (pm_1) (pt_1) (ph_1) (alive_1)) (f20 : STR (pn_1) (rowMany_1) (pt_1) (ph_1) (row_1)) (f21 : onlyPiece_1 = (-1)) (f22 : (-1) * rowMany_1 + ((-1) * x6 + 0) ≤ (-26)) (f23 : DRR (pn_1) (rowMany_1) (drawnNode_1) (row_1)) (f24 : DEM (pm_1) (pt_1) (ph_1) (drawnNode_1) (drawnEdge_1)) (f25 : UA (pm_1) (alive_1) (drawnEdge_1)) (f26 : (rowMany_1 + 1) ≤ pn_1) (f27 : BC1 (pn_1) (wayMany_1) (drawnNode_1) (way_1) (bestWay_1) (x1) (x5)) (f28 : 1 * x2 + ((-1) * pn_1 + 0) ≤ (-1)) (f29 : 1 * x3 + ((-1) * pn_1 + 0) ≤ (-1)) (f30 : drawnNode_1 (x2) ≠ 0) (fe_0_31_1 : pn_0 = pn_1) (fe_0_32_1 : pm_0 = pm_1) (fe_0_45_1 : wayMany_0 = wayMany_1) (fe_0_49_1 : onlyPiece_0 = onlyPiece_1) (fe_0_125_1 : rowMany_0 = rowMany_1) (hE_0_33_1 : ∀ j : Int, pt_0 j = pt_1 j) (hK_0_33 : ∀ j : Int, 0 ≤ j → j < 80 → 0 ≤ pt_0 j ∧ pt_0 j ≤ 24) (hE_0_34_1 : ∀ j : Int, ph_0 j = ph_1 j) (hK_0_34 : ∀ j : Int, 0 ≤ j → j < 80 → 0 ≤ ph_0 j ∧ ph_0 j ≤ 24) (hE_0_35_1 : ∀ j : Int, alive_0 j = alive_1 j) (hK_0_35 : ∀ j : Int, 0 ≤ j → j < 80 → 0 ≤ alive_0 j ∧ alive_0 j ≤ 1) (hE_0_42_1 : ∀ j : Int, drawnNode_0 j = drawnNode_1 j) (hK_0_42 : ∀ j : Int, 0 ≤ j → j < 26 → 0 ≤ drawnNode_0 j ∧ drawnNode_0 j ≤ 1) (hE_0_43_1 : ∀ j : Int, drawnEdge_0 j = drawnEdge_1 j) (hK_0_43 : ∀ j : Int, 0 ≤ j → j < 80 → 0 ≤ drawnEdge_0 j ∧ drawnEdge_0 j ≤ 1) (hE_0_46_1 : ∀ j : Int, way_0 j = way_1 j) (hK_0_46 : ∀ j : Int, 0 ≤ j → j < 30 → 0 ≤ way_0 j ∧ way_0 j ≤ 24) (hE_0_52_1 : ∀ j : Int, 0 ≤ j → (j = x5 → bestWay_0 j = x9) ∧ (j ≠ x5 → bestWay_0 j = bestWay_1 j)) (hK_0_52 : ∀ j : Int, 0 ≤ j → j < 30 → 0 ≤ bestWay_0 j ∧ bestWay_0 j ≤ 24) (hE_0_117_1 : ∀ j : Int, row_0 j = row_1 j) (hK_0_117 : ∀ j : Int, 0 ≤ j → j < 100 → 0 ≤ row_0 j ∧ row_0 j ≤ 75) (kz_0_31 : 0 ≤ pn_0 ∧ pn_0 ≤ 25) (kz_0_32 : 0 ≤ pm_0 ∧ pm_0 ≤ 80) (kz_0_45 : 0 ≤ wayMany_0 ∧ wayMany_0 ≤ 30) (kz_0_49 : (-1) ≤ onlyPiece_0 ∧ onlyPiece_0 ≤ 79) (kz_0_125 : 0 ≤ rowMany_0 ∧ rowMany_0 ≤ 100) : BC1 (pn_0) (wayMany_0) (drawnNode_0) (way_0) (bestWay_0) (x1) (x10) := by
  subst fe_0_31_1
  subst fe_0_32_1
  subst fe_0_45_1
  subst fe_0_49_1
  subst fe_0_125_1
  have e_hE_0_33_1 := funext hE_0_33_1; subst e_hE_0_33_1
  have e_hE_0_34_1 := funext hE_0_34_1; subst e_hE_0_34_1
  have e_hE_0_35_1 := funext hE_0_35_1; subst e_hE_0_35_1
  have e_hE_0_42_1 := funext hE_0_42_1; subst e_hE_0_42_1
  have e_hE_0_43_1 := funext hE_0_43_1; subst e_hE_0_43_1
  have e_hE_0_46_1 := funext hE_0_46_1; subst e_hE_0_46_1
  have e_hE_0_117_1 := funext hE_0_117_1; subst e_hE_0_117_1
  first
    | exact bc_step ‹BC1 _ _ _ _ _ _ _› (by omega) (by assumption) (by omega) (by assumption) (by omega)
    | exact ⟨‹WYM _ _ _ _›, by omega, fun t a b => by exfalso; omega⟩
    | exact ⟨wyg_of ‹DEM _ _ _ _ _› ‹SHP _ _ _ _ _ _ _ _ _ _ _ _ _ _› (by omega) (by omega) (by omega) (by omega) (by omega), by omega, fun t a b => by exfalso; omega⟩
def o_Mo_stOrder_34 : or_T := (328, 11, [(0, (2, 0, 0, [165])), (1, (0, 1, 30, [])), (2, (0, 0, 24, [])), (3, (0, 0, 24, [])), (5, (0, 0, 29, [])), (6, (0, -2, 26, [])), (7, (2, 0, 0, [195])), (9, (0, 0, 24, [])), (10, (0, 1, 30, []))], [(6, [10, 5], [1]), (20, [0], [60, 2, 2, 75, 31, 32, 33, 34]), (20, [0], [60, 2, 3, 297, 31, 32, 33, 34, 35]), (20, [0], [60, 2, 3, 298, 31, 125, 33, 34, 117]), (20, [0], [50, 1, 0, 49, 1, 3, 2, 0, 49, 0, -1]), (20, [0, 6], [30, -26, -1, 1, 125, -1, 0, 0]), (20, [0], [60, 2, 2, 301, 31, 125, 42, 117]), (20, [0], [60, 1, 4, 303, 32, 33, 34, 42, 43]), (20, [0], [60, 1, 2, 122, 32, 35, 43]), (20, [0], [50, 2, 0, 125, 31, 0, 7, 4, 3, 2, 0, 125, 0, 1, 2, 0, 31]), (20, [2, 0], [30, -1, 1, 0, 0, -1, 1, 31]), (20, [3, 0], [30, -1, 1, 0, 0, -1, 1, 31]), (20, [0, 2], [50, 0, 1, 42, 7, 5, 3, 0, 42, 1, 1, 0, 0]), (100, [7, 5, 9], []), (10, [9, 8, 5], []), (9, [8, 0], [46]), (9, [7, 0], [52]), (7, [5, 1], [2]), (20, [0], [60, 2, 2, 75, 31, 32, 33, 34]), (20, [0], [60, 2, 3, 297, 31, 32, 33, 34, 35]), (20, [0], [60, 2, 3, 298, 31, 125, 33, 34, 117]), (20, [0], [50, 1, 0, 49, 1, 3, 2, 0, 49, 0, -1]), (20, [0, 6], [30, -26, -1, 1, 125, -1, 0, 0]), (20, [0], [60, 2, 2, 301, 31, 125, 42, 117]), (20, [0], [60, 1, 4, 303, 32, 33, 34, 42, 43]), (20, [0], [60, 1, 2, 122, 32, 35, 43]), (20, [0], [50, 2, 0, 125, 31, 0, 7, 4, 3, 2, 0, 125, 0, 1, 2, 0, 31]), (20, [0, 1, 5], [60, 2, 3, 307, 31, 45, 42, 46, 52]), (20, [2, 0], [30, -1, 1, 0, 0, -1, 1, 31]), (20, [3, 0], [30, -1, 1, 0, 0, -1, 1, 31]), (20, [0, 2], [50, 0, 1, 42, 7, 5, 3, 0, 42, 1, 1, 0, 0])], [], [], [(20, [0, 1, 10], [60, 2, 3, 307, 31, 45, 42, 46, 52])], [], [(10, 5, 1, 1), (10, 1, -4294967296, 0), (10, 1, -4294967296, 1), (5, 1, -4294967296, -1), (5, 1, -4294967296, 0)])
theorem oo_Mo_stOrder_34 {kA : Nat → ClassId} : or_ok PRD kA GG o_Mo_stOrder_34 := by
  refine or_mk fun A ta ws vs hD hth hl => ?_
  intro t0 r0 t1 k1 t2 k2 t3 k3 t5 k5 t6 k6 t7 r7 t9 k9 t10 k10 d0 d1 d2 d3 d4 f0 f1 f2 f3 f4 f5 f6 f7 f8 f9 f10 f11 f12 ta1 w1 le1 s1 f14 f15 f16 f17 f18 f19 f20 f21 f22 f23 f24 f25 f26 f27 f28 f29 f30
  have s1 : (∀ b j, w_el ws b j = if b = v_ad (n_v vs 7) ∧ j = (v_iv (n_v vs 5)).toNat then v_iv (n_v vs 9) else w_el w1 b j) ∧ ∀ b k, w_fd ws b k = w_fd w1 b k := s1.2
  replace f14 := shm_107 f14
  replace f15 := shm_737 f15
  replace f16 := shm_993 f16
  replace f18 := shm_575 f18
  replace f19 := shm_1749 f19
  replace f20 := shm_1001 f20
  replace f23 := shm_1755 f23
  replace f24 := shm_1757 f24
  replace f25 := shm_1455 f25
  replace f27 := shm_1763 f27
  replace f30 := shm_1762 f30
  have ar_0_33_1 : w_ar w1 (n_v vs 0) 33 = w_ar ws (n_v vs 0) 33 := congrArg v_ad (s1.2 _ _).symm
  have cr_0_33 := fdq_117 hD hth r0
  have ar_0_34_1 : w_ar w1 (n_v vs 0) 34 = w_ar ws (n_v vs 0) 34 := congrArg v_ad (s1.2 _ _).symm
  have cr_0_34 := fdq_118 hD hth r0
  have ar_0_35_1 : w_ar w1 (n_v vs 0) 35 = w_ar ws (n_v vs 0) 35 := congrArg v_ad (s1.2 _ _).symm
  have cr_0_35 := fdq_132 hD hth r0
  have ar_0_42_1 : w_ar w1 (n_v vs 0) 42 = w_ar ws (n_v vs 0) 42 := congrArg v_ad (s1.2 _ _).symm
  have cr_0_42 := fdq_136 hD hth r0
  have ar_0_43_1 : w_ar w1 (n_v vs 0) 43 = w_ar ws (n_v vs 0) 43 := congrArg v_ad (s1.2 _ _).symm
  have cr_0_43 := fdq_137 hD hth r0
  have ar_0_46_1 : w_ar w1 (n_v vs 0) 46 = w_ar ws (n_v vs 0) 46 := congrArg v_ad (s1.2 _ _).symm
  have cr_0_46 := fdq_190 hD hth r0
  have ar_0_52_1 : w_ar w1 (n_v vs 0) 52 = w_ar ws (n_v vs 0) 52 := congrArg v_ad (s1.2 _ _).symm
  have cr_0_52 := fdq_236 hD hth r0
  have ar_0_117_1 : w_ar w1 (n_v vs 0) 117 = w_ar ws (n_v vs 0) 117 := congrArg v_ad (s1.2 _ _).symm
  have cr_0_117 := fdq_181 hD hth r0
  have ad_8 : v_ad (n_v vs 8) = w_ar ws (n_v vs 0) 46 := (congrArg v_ad f15).trans ar_0_46_1
  have ad_7 : v_ad (n_v vs 7) = w_ar ws (n_v vs 0) 52 := (congrArg v_ad f16).trans ar_0_52_1
  simp only [ad_8] at f14
  have h14 : v_iv (n_v vs 9) = w_ei w1 (w_ar ws (n_v vs 0) 46) (v_iv (n_v vs 5)) := f14
  simp only [ar_0_33_1, ar_0_34_1, ar_0_35_1, ar_0_117_1, ar_0_42_1, ar_0_43_1, ar_0_46_1, ar_0_52_1] at f18 f19 f20 f23 f24 f25 f27 f30
  have fe_0_31_1 : w_fi ws (n_v vs 0) 31 = w_fi w1 (n_v vs 0) 31 := congrArg v_iv (s1.2 _ _)
  have fe_0_32_1 : w_fi ws (n_v vs 0) 32 = w_fi w1 (n_v vs 0) 32 := congrArg v_iv (s1.2 _ _)
  have fe_0_45_1 : w_fi ws (n_v vs 0) 45 = w_fi w1 (n_v vs 0) 45 := congrArg v_iv (s1.2 _ _)
  have fe_0_49_1 : w_fi ws (n_v vs 0) 49 = w_fi w1 (n_v vs 0) 49 := congrArg v_iv (s1.2 _ _)
  have fe_0_125_1 : w_fi ws (n_v vs 0) 125 = w_fi w1 (n_v vs 0) 125 := congrArg v_iv (s1.2 _ _)
  have hE_0_33_1 : ∀ j : Int, w_ei ws (w_ar ws (n_v vs 0) 33) j = w_ei w1 (w_ar ws (n_v vs 0) 33) j := el_kp s1.1 r7 cr_0_33 (by decide)
  have hK_0_33 := elq_60 hD hth cr_0_33
  have hE_0_34_1 : ∀ j : Int, w_ei ws (w_ar ws (n_v vs 0) 34) j = w_ei w1 (w_ar ws (n_v vs 0) 34) j := el_kp s1.1 r7 cr_0_34 (by decide)
  have hK_0_34 := elq_61 hD hth cr_0_34
  have hE_0_35_1 : ∀ j : Int, w_ei ws (w_ar ws (n_v vs 0) 35) j = w_ei w1 (w_ar ws (n_v vs 0) 35) j := el_kp s1.1 r7 cr_0_35 (by decide)
  have hK_0_35 := elq_72 hD hth cr_0_35
  have hE_0_42_1 : ∀ j : Int, w_ei ws (w_ar ws (n_v vs 0) 42) j = w_ei w1 (w_ar ws (n_v vs 0) 42) j := el_kp s1.1 r7 cr_0_42 (by decide)
  have hK_0_42 := elq_75 hD hth cr_0_42
  have hE_0_43_1 : ∀ j : Int, w_ei ws (w_ar ws (n_v vs 0) 43) j = w_ei w1 (w_ar ws (n_v vs 0) 43) j := el_kp s1.1 r7 cr_0_43 (by decide)
  have hK_0_43 := elq_76 hD hth cr_0_43
  have hE_0_46_1 : ∀ j : Int, w_ei ws (w_ar ws (n_v vs 0) 46) j = w_ei w1 (w_ar ws (n_v vs 0) 46) j := el_kp s1.1 r7 cr_0_46 (by decide)
  have hK_0_46 := elq_114 hD hth cr_0_46
  have hE_0_52_1 : ∀ j : Int, 0 ≤ j → (j = v_iv (n_v vs 5) → w_ei ws (w_ar ws (n_v vs 0) 52) j = v_iv (n_v vs 9)) ∧ (j ≠ v_iv (n_v vs 5) → w_ei ws (w_ar ws (n_v vs 0) 52) j = w_ei w1 (w_ar ws (n_v vs 0) 52) j) := fun j hj => ⟨fun h => by unfold w_ei; rw [s1.1, if_pos ⟨ad_7.symm, by rw [h]⟩], fun h => by unfold w_ei; rw [s1.1, if_neg (fun e => h (by have := e.2; omega))]⟩
  have hK_0_52 := elq_147 hD hth cr_0_52
  have hE_0_117_1 : ∀ j : Int, w_ei ws (w_ar ws (n_v vs 0) 117) j = w_ei w1 (w_ar ws (n_v vs 0) 117) j := el_kp s1.1 r7 cr_0_117 (by decide)
  have hK_0_117 := elq_108 hD hth cr_0_117
  have kz_0_31 := fdq_145 hD hth r0
  have kz_0_32 := fdq_140 hD hth r0
  have kz_0_45 := fdq_191 hD hth r0
  have kz_0_49 := fdq_146 hD hth r0
  have kz_0_125 := fdq_182 hD hth r0
  have nf0 : fc_1 PRD (20, [0, 1, 10], [60, 2, 3, 307, 31, 45, 42, 46, 52]) ws (vs) := ⟨nf_in hl rfl, sgq_1763 (vc_Mo_stOrder_34_0 (v_iv (n_v vs 1)) (v_iv (n_v vs 2)) (v_iv (n_v vs 3)) (v_iv (n_v vs 5)) (v_iv (n_v vs 6)) (v_iv (n_v vs 9)) (v_iv (n_v vs 10)) (w_ei ws (w_ar ws (n_v vs 0) 33)) (w_ei ws (w_ar ws (n_v vs 0) 34)) (w_fi ws (n_v vs 0) 31) (w_fi ws (n_v vs 0) 32) (w_ei ws (w_ar ws (n_v vs 0) 35)) (w_ei ws (w_ar ws (n_v vs 0) 117)) (w_fi ws (n_v vs 0) 125) (w_fi ws (n_v vs 0) 49) (w_ei ws (w_ar ws (n_v vs 0) 42)) (w_ei ws (w_ar ws (n_v vs 0) 43)) (w_ei w1 (w_ar ws (n_v vs 0) 46)) (w_ei w1 (w_ar ws (n_v vs 0) 33)) (w_ei w1 (w_ar ws (n_v vs 0) 34)) (w_fi w1 (n_v vs 0) 31) (w_fi w1 (n_v vs 0) 32) (w_ei w1 (w_ar ws (n_v vs 0) 35)) (w_ei w1 (w_ar ws (n_v vs 0) 117)) (w_fi w1 (n_v vs 0) 125) (w_fi w1 (n_v vs 0) 49) (w_ei w1 (w_ar ws (n_v vs 0) 42)) (w_ei w1 (w_ar ws (n_v vs 0) 43)) (w_ei w1 (w_ar ws (n_v vs 0) 52)) (w_fi w1 (n_v vs 0) 45) (w_fi ws (n_v vs 0) 45) (w_ei ws (w_ar ws (n_v vs 0) 46)) (w_ei ws (w_ar ws (n_v vs 0) 52)) k1 k2 k3 k5 k6 k9 k10 d0 d1 d2 d3 d4 (shm_4 f0) (shm_575 f1) (shm_1749 f2) (shm_1001 f3) (shm_1675 f4) (shm_1750 f5) (shm_1755 f6) (shm_1757 f7) (shm_1455 f8) (shm_1752 f9) (shm_553 f10) (shm_553 f11) (shm_1762 f12) h14 (shm_6 f17) f18 f19 f20 (shm_1675 f21) (shm_1750 f22) f23 f24 f25 (shm_1752 f26) f27 (shm_553 f28) (shm_553 f29) f30 fe_0_31_1 fe_0_32_1 fe_0_45_1 fe_0_49_1 fe_0_125_1 hE_0_33_1 hK_0_33 hE_0_34_1 hK_0_34 hE_0_35_1 hK_0_35 hE_0_42_1 hK_0_42 hE_0_43_1 hK_0_43 hE_0_46_1 hK_0_46 hE_0_52_1 hK_0_52 hE_0_117_1 hK_0_117 kz_0_31 kz_0_32 kz_0_45 kz_0_49 kz_0_125)⟩
  refine ⟨(fun _ h => (by cases h)), [], trivial, ?_, (fun _ h => (by cases h))⟩
  rw [List.append_nil]
  exact List.forall_mem_cons.mpr ⟨⟨show (20 : Nat) < 100 from by decide, nf0⟩, (fun _ h => (by cases h))⟩
set_option maxHeartbeats 4000000 in
theorem vc_Mo_stOrder_35_0 (x4 : Int) (pt_0 : Int → Int) (ph_0 : Int → Int) (pn_0 : Int) (pm_0 : Int) (alive_0 : Int → Int) (row_0 : Int → Int) (rowMany_0 : Int) (onlyPiece_0 : Int) (gx : Int) (k4 : (-2) ≤ x4 ∧ x4 ≤ 26) (f0 : GOK (pn_0) (pm_0) (pt_0) (ph_0)) (f1 : STB (pn_0) (pm_0) (pt_0) (ph_0) (alive_0)) (f2 : STR (pn_0) (rowMany_0) (pt_0) (ph_0) (row_0)) (f3 : onlyPiece_0 = (-1)) (f4 : (-1) * rowMany_0 + ((-1) * x4 + 0) ≤ (-27)) (f5 : (-1) * x4 + 0 ≤ (-1)) (hK_0_33 : ∀ j : Int, 0 ≤ j → j < 80 → 0 ≤ pt_0 j ∧ pt_0 j ≤ 24) (hK_0_34 : ∀ j : Int, 0 ≤ j → j < 80 → 0 ≤ ph_0 j ∧ ph_0 j ≤ 24) (hK_0_35 : ∀ j : Int, 0 ≤ j → j < 80 → 0 ≤ alive_0 j ∧ alive_0 j ≤ 1) (hK_0_117 : ∀ j : Int, 0 ≤ j → j < 100 → 0 ≤ row_0 j ∧ row_0 j ≤ 75) (kz_0_31 : 0 ≤ pn_0 ∧ pn_0 ≤ 25) (kz_0_32 : 0 ≤ pm_0 ∧ pm_0 ≤ 80) (kz_0_49 : (-1) ≤ onlyPiece_0 ∧ onlyPiece_0 ≤ 79) (kz_0_125 : 0 ≤ rowMany_0 ∧ rowMany_0 ≤ 100) (ex2 : gx = (-1) + (1 * x4 + 0)) (ex3 : (-2) ≤ gx ∧ gx ≤ 26) : GOK (pn_0) (pm_0) (pt_0) (ph_0) := by
  first
    | assumption
    | exact ‹STB _ _ _ _ _›.1.1
set_option maxHeartbeats 4000000 in
theorem vc_Mo_stOrder_35_1 (x4 : Int) (pt_0 : Int → Int) (ph_0 : Int → Int) (pn_0 : Int) (pm_0 : Int) (alive_0 : Int → Int) (row_0 : Int → Int) (rowMany_0 : Int) (onlyPiece_0 : Int) (gx : Int) (k4 : (-2) ≤ x4 ∧ x4 ≤ 26) (f0 : GOK (pn_0) (pm_0) (pt_0) (ph_0)) (f1 : STB (pn_0) (pm_0) (pt_0) (ph_0) (alive_0)) (f2 : STR (pn_0) (rowMany_0) (pt_0) (ph_0) (row_0)) (f3 : onlyPiece_0 = (-1)) (f4 : (-1) * rowMany_0 + ((-1) * x4 + 0) ≤ (-27)) (f5 : (-1) * x4 + 0 ≤ (-1)) (hK_0_33 : ∀ j : Int, 0 ≤ j → j < 80 → 0 ≤ pt_0 j ∧ pt_0 j ≤ 24) (hK_0_34 : ∀ j : Int, 0 ≤ j → j < 80 → 0 ≤ ph_0 j ∧ ph_0 j ≤ 24) (hK_0_35 : ∀ j : Int, 0 ≤ j → j < 80 → 0 ≤ alive_0 j ∧ alive_0 j ≤ 1) (hK_0_117 : ∀ j : Int, 0 ≤ j → j < 100 → 0 ≤ row_0 j ∧ row_0 j ≤ 75) (kz_0_31 : 0 ≤ pn_0 ∧ pn_0 ≤ 25) (kz_0_32 : 0 ≤ pm_0 ∧ pm_0 ≤ 80) (kz_0_49 : (-1) ≤ onlyPiece_0 ∧ onlyPiece_0 ≤ 79) (kz_0_125 : 0 ≤ rowMany_0 ∧ rowMany_0 ≤ 100) (ex2 : gx = (-1) + (1 * x4 + 0)) (ex3 : (-2) ≤ gx ∧ gx ≤ 26) : STB (pn_0) (pm_0) (pt_0) (ph_0) (alive_0) := by
  first | assumption
set_option maxHeartbeats 4000000 in
theorem vc_Mo_stOrder_35_2 (x4 : Int) (pt_0 : Int → Int) (ph_0 : Int → Int) (pn_0 : Int) (pm_0 : Int) (alive_0 : Int → Int) (row_0 : Int → Int) (rowMany_0 : Int) (onlyPiece_0 : Int) (gx : Int) (k4 : (-2) ≤ x4 ∧ x4 ≤ 26) (f0 : GOK (pn_0) (pm_0) (pt_0) (ph_0)) (f1 : STB (pn_0) (pm_0) (pt_0) (ph_0) (alive_0)) (f2 : STR (pn_0) (rowMany_0) (pt_0) (ph_0) (row_0)) (f3 : onlyPiece_0 = (-1)) (f4 : (-1) * rowMany_0 + ((-1) * x4 + 0) ≤ (-27)) (f5 : (-1) * x4 + 0 ≤ (-1)) (hK_0_33 : ∀ j : Int, 0 ≤ j → j < 80 → 0 ≤ pt_0 j ∧ pt_0 j ≤ 24) (hK_0_34 : ∀ j : Int, 0 ≤ j → j < 80 → 0 ≤ ph_0 j ∧ ph_0 j ≤ 24) (hK_0_35 : ∀ j : Int, 0 ≤ j → j < 80 → 0 ≤ alive_0 j ∧ alive_0 j ≤ 1) (hK_0_117 : ∀ j : Int, 0 ≤ j → j < 100 → 0 ≤ row_0 j ∧ row_0 j ≤ 75) (kz_0_31 : 0 ≤ pn_0 ∧ pn_0 ≤ 25) (kz_0_32 : 0 ≤ pm_0 ∧ pm_0 ≤ 80) (kz_0_49 : (-1) ≤ onlyPiece_0 ∧ onlyPiece_0 ≤ 79) (kz_0_125 : 0 ≤ rowMany_0 ∧ rowMany_0 ≤ 100) (ex2 : gx = (-1) + (1 * x4 + 0)) (ex3 : (-2) ≤ gx ∧ gx ≤ 26) : STR (pn_0) (rowMany_0) (pt_0) (ph_0) (row_0) := by
  first
    | assumption
    | exact str_start ‹STB _ _ _ _ _› (by omega) hE_0_117_2 (by omega) (by rw [← (by omega : x6 = 0)]; assumption) hE_0_117_1 (by omega) (by rw [← (by omega : x10 = 0)]; assumption)
set_option maxHeartbeats 4000000 in
theorem vc_Mo_stOrder_35_3 (x4 : Int) (pt_0 : Int → Int) (ph_0 : Int → Int) (pn_0 : Int) (pm_0 : Int) (alive_0 : Int → Int) (row_0 : Int → Int) (rowMany_0 : Int) (onlyPiece_0 : Int) (gx : Int) (k4 : (-2) ≤ x4 ∧ x4 ≤ 26) (f0 : GOK (pn_0) (pm_0) (pt_0) (ph_0)) (f1 : STB (pn_0) (pm_0) (pt_0) (ph_0) (alive_0)) (f2 : STR (pn_0) (rowMany_0) (pt_0) (ph_0) (row_0)) (f3 : onlyPiece_0 = (-1)) (f4 : (-1) * rowMany_0 + ((-1) * x4 + 0) ≤ (-27)) (f5 : (-1) * x4 + 0 ≤ (-1)) (hK_0_33 : ∀ j : Int, 0 ≤ j → j < 80 → 0 ≤ pt_0 j ∧ pt_0 j ≤ 24) (hK_0_34 : ∀ j : Int, 0 ≤ j → j < 80 → 0 ≤ ph_0 j ∧ ph_0 j ≤ 24) (hK_0_35 : ∀ j : Int, 0 ≤ j → j < 80 → 0 ≤ alive_0 j ∧ alive_0 j ≤ 1) (hK_0_117 : ∀ j : Int, 0 ≤ j → j < 100 → 0 ≤ row_0 j ∧ row_0 j ≤ 75) (kz_0_31 : 0 ≤ pn_0 ∧ pn_0 ≤ 25) (kz_0_32 : 0 ≤ pm_0 ∧ pm_0 ≤ 80) (kz_0_49 : (-1) ≤ onlyPiece_0 ∧ onlyPiece_0 ≤ 79) (kz_0_125 : 0 ≤ rowMany_0 ∧ rowMany_0 ≤ 100) (ex2 : gx = (-1) + (1 * x4 + 0)) (ex3 : (-2) ≤ gx ∧ gx ≤ 26) : onlyPiece_0 = (-1) := by
  first
    | omega
    | (have h := ‹STB _ _ _ _ _›.1.2.2; omega)
    | (have h := ‹STR _ _ _ _ _›.1; omega)
    | (have h := ‹STR _ _ _ _ _›.1
       have w := ‹STR _ _ _ _ _›.2.1 x1 (by omega) (by omega)
       omega)
    | (have h := bc_len ‹BC1 _ _ _ _ _ _ _›
       have h2 := ‹STR _ _ _ _ _›.1
       omega)
    | (have h := (sb_way ‹SB1 _ _ _ _ _ _ _ _ _ _ _ _› (by omega)).1
       have h2 := ‹STR _ _ _ _ _›.1
       omega)
    | (have h := ‹WYM _ _ _ _›.1
       have h2 := ‹STR _ _ _ _ _›.1
       omega)
set_option maxHeartbeats 4000000 in
theorem vc_Mo_stOrder_35_4 (x4 : Int) (pt_0 : Int → Int) (ph_0 : Int → Int) (pn_0 : Int) (pm_0 : Int) (alive_0 : Int → Int) (row_0 : Int → Int) (rowMany_0 : Int) (onlyPiece_0 : Int) (gx : Int) (k4 : (-2) ≤ x4 ∧ x4 ≤ 26) (f0 : GOK (pn_0) (pm_0) (pt_0) (ph_0)) (f1 : STB (pn_0) (pm_0) (pt_0) (ph_0) (alive_0)) (f2 : STR (pn_0) (rowMany_0) (pt_0) (ph_0) (row_0)) (f3 : onlyPiece_0 = (-1)) (f4 : (-1) * rowMany_0 + ((-1) * x4 + 0) ≤ (-27)) (f5 : (-1) * x4 + 0 ≤ (-1)) (hK_0_33 : ∀ j : Int, 0 ≤ j → j < 80 → 0 ≤ pt_0 j ∧ pt_0 j ≤ 24) (hK_0_34 : ∀ j : Int, 0 ≤ j → j < 80 → 0 ≤ ph_0 j ∧ ph_0 j ≤ 24) (hK_0_35 : ∀ j : Int, 0 ≤ j → j < 80 → 0 ≤ alive_0 j ∧ alive_0 j ≤ 1) (hK_0_117 : ∀ j : Int, 0 ≤ j → j < 100 → 0 ≤ row_0 j ∧ row_0 j ≤ 75) (kz_0_31 : 0 ≤ pn_0 ∧ pn_0 ≤ 25) (kz_0_32 : 0 ≤ pm_0 ∧ pm_0 ≤ 80) (kz_0_49 : (-1) ≤ onlyPiece_0 ∧ onlyPiece_0 ≤ 79) (kz_0_125 : 0 ≤ rowMany_0 ∧ rowMany_0 ≤ 100) (ex2 : gx = (-1) + (1 * x4 + 0)) (ex3 : (-2) ≤ gx ∧ gx ≤ 26) : (-1) * rowMany_0 + ((-1) * gx + 0) ≤ (-26) := by
  first
    | omega
    | (have h := ‹STB _ _ _ _ _›.1.2.2; omega)
    | (have h := ‹STR _ _ _ _ _›.1; omega)
    | (have h := ‹STR _ _ _ _ _›.1
       have w := ‹STR _ _ _ _ _›.2.1 x1 (by omega) (by omega)
       omega)
    | (have h := bc_len ‹BC1 _ _ _ _ _ _ _›
       have h2 := ‹STR _ _ _ _ _›.1
       omega)
    | (have h := (sb_way ‹SB1 _ _ _ _ _ _ _ _ _ _ _ _› (by omega)).1
       have h2 := ‹STR _ _ _ _ _›.1
       omega)
    | (have h := ‹WYM _ _ _ _›.1
       have h2 := ‹STR _ _ _ _ _›.1
       omega)
def o_Mo_stOrder_35 : or_T := (34, 5, [(0, (2, 0, 0, [165])), (4, (0, -2, 26, []))], [(20, [0], [60, 2, 2, 75, 31, 32, 33, 34]), (20, [0], [60, 2, 3, 297, 31, 32, 33, 34, 35]), (20, [0], [60, 2, 3, 298, 31, 125, 33, 34, 117]), (20, [0], [50, 1, 0, 49, 1, 3, 2, 0, 49, 0, -1]), (20, [0, 4], [30, -27, -1, 1, 125, -1, 0, 0]), (23, [4], [-1, -1])], [], [(0, -2, 26, [])], [(20, [0], [60, 2, 2, 75, 31, 32, 33, 34]), (20, [0], [60, 2, 3, 297, 31, 32, 33, 34, 35]), (20, [0], [60, 2, 3, 298, 31, 125, 33, 34, 117]), (20, [0], [50, 1, 0, 49, 1, 3, 2, 0, 49, 0, -1]), (20, [0, 5], [30, -26, -1, 1, 125, -1, 0, 0])], [(5, 4, -1000000000000, -1)], [])
theorem oo_Mo_stOrder_35 {kA : Nat → ClassId} : or_ok PRD kA GG o_Mo_stOrder_35 := by
  refine or_mk fun A ta ws vs hD hth hl => ?_
  intro t0 r0 t4 k4 f0 f1 f2 f3 f4 f5
  replace f0 := shm_575 f0
  replace f1 := shm_1749 f1
  replace f2 := shm_1001 f2
  replace f3 := shm_1675 f3
  replace f4 := shm_1760 f4
  replace f5 := shm_626 f5
  have cr_0_33 := fdq_117 hD hth r0
  have cr_0_34 := fdq_118 hD hth r0
  have cr_0_35 := fdq_132 hD hth r0
  have cr_0_117 := fdq_181 hD hth r0
  have hK_0_33 := elq_60 hD hth cr_0_33
  have hK_0_34 := elq_61 hD hth cr_0_34
  have hK_0_35 := elq_72 hD hth cr_0_35
  have hK_0_117 := elq_108 hD hth cr_0_117
  have kz_0_31 := fdq_145 hD hth r0
  have kz_0_32 := fdq_140 hD hth r0
  have kz_0_49 := fdq_146 hD hth r0
  have kz_0_125 := fdq_182 hD hth r0
  obtain ⟨x, ex, hx⟩ := iv_ex (ta := ta) (lo := (-2)) (hi := 26) (z := (-1) + (1 * v_iv (n_v vs 4) + 0)) (by omega) (by omega) (by omega) (by omega)
  have ex2 : v_iv (Value.int x) = (-1) + (1 * v_iv (n_v vs 4) + 0) := ex
  have ex3 : (-2) ≤ v_iv (Value.int x) ∧ v_iv (Value.int x) ≤ 26 := tv_rng hx
  have e_0 : n_v (vs ++ [Value.int x]) 0 = n_v vs 0 := n_v_old (by rw [hl]; decide)
  have e_5 : n_v (vs ++ [Value.int x]) 5 = Value.int x := n_v_new hl
  have nf0 : fc_1 PRD (20, [0], [60, 2, 2, 75, 31, 32, 33, 34]) ws (vs ++ [Value.int x]) := by
    refine ⟨nf_inA hl rfl, sgq_575 ?_⟩
    · show GOK (w_fi ws (n_v (vs ++ [Value.int x]) 0) 31) (w_fi ws (n_v (vs ++ [Value.int x]) 0) 32) (w_ei ws (w_ar ws (n_v (vs ++ [Value.int x]) 0) 33)) (w_ei ws (w_ar ws (n_v (vs ++ [Value.int x]) 0) 34))
      rw [e_0]
      exact vc_Mo_stOrder_35_0 (v_iv (n_v vs 4)) (w_ei ws (w_ar ws (n_v vs 0) 33)) (w_ei ws (w_ar ws (n_v vs 0) 34)) (w_fi ws (n_v vs 0) 31) (w_fi ws (n_v vs 0) 32) (w_ei ws (w_ar ws (n_v vs 0) 35)) (w_ei ws (w_ar ws (n_v vs 0) 117)) (w_fi ws (n_v vs 0) 125) (w_fi ws (n_v vs 0) 49) (v_iv (Value.int x)) k4 f0 f1 f2 f3 f4 f5 hK_0_33 hK_0_34 hK_0_35 hK_0_117 kz_0_31 kz_0_32 kz_0_49 kz_0_125 ex2 ex3
  have nf1 : fc_1 PRD (20, [0], [60, 2, 3, 297, 31, 32, 33, 34, 35]) ws (vs ++ [Value.int x]) := by
    refine ⟨nf_inA hl rfl, sgq_1749 ?_⟩
    · show STB (w_fi ws (n_v (vs ++ [Value.int x]) 0) 31) (w_fi ws (n_v (vs ++ [Value.int x]) 0) 32) (w_ei ws (w_ar ws (n_v (vs ++ [Value.int x]) 0) 33)) (w_ei ws (w_ar ws (n_v (vs ++ [Value.int x]) 0) 34)) (w_ei ws (w_ar ws (n_v (vs ++ [Value.int x]) 0) 35))
      rw [e_0]
      exact vc_Mo_stOrder_35_1 (v_iv (n_v vs 4)) (w_ei ws (w_ar ws (n_v vs 0) 33)) (w_ei ws (w_ar ws (n_v vs 0) 34)) (w_fi ws (n_v vs 0) 31) (w_fi ws (n_v vs 0) 32) (w_ei ws (w_ar ws (n_v vs 0) 35)) (w_ei ws (w_ar ws (n_v vs 0) 117)) (w_fi ws (n_v vs 0) 125) (w_fi ws (n_v vs 0) 49) (v_iv (Value.int x)) k4 f0 f1 f2 f3 f4 f5 hK_0_33 hK_0_34 hK_0_35 hK_0_117 kz_0_31 kz_0_32 kz_0_49 kz_0_125 ex2 ex3
  have nf2 : fc_1 PRD (20, [0], [60, 2, 3, 298, 31, 125, 33, 34, 117]) ws (vs ++ [Value.int x]) := by
    refine ⟨nf_inA hl rfl, sgq_1001 ?_⟩
    · show STR (w_fi ws (n_v (vs ++ [Value.int x]) 0) 31) (w_fi ws (n_v (vs ++ [Value.int x]) 0) 125) (w_ei ws (w_ar ws (n_v (vs ++ [Value.int x]) 0) 33)) (w_ei ws (w_ar ws (n_v (vs ++ [Value.int x]) 0) 34)) (w_ei ws (w_ar ws (n_v (vs ++ [Value.int x]) 0) 117))
      rw [e_0]
      exact vc_Mo_stOrder_35_2 (v_iv (n_v vs 4)) (w_ei ws (w_ar ws (n_v vs 0) 33)) (w_ei ws (w_ar ws (n_v vs 0) 34)) (w_fi ws (n_v vs 0) 31) (w_fi ws (n_v vs 0) 32) (w_ei ws (w_ar ws (n_v vs 0) 35)) (w_ei ws (w_ar ws (n_v vs 0) 117)) (w_fi ws (n_v vs 0) 125) (w_fi ws (n_v vs 0) 49) (v_iv (Value.int x)) k4 f0 f1 f2 f3 f4 f5 hK_0_33 hK_0_34 hK_0_35 hK_0_117 kz_0_31 kz_0_32 kz_0_49 kz_0_125 ex2 ex3
  have nf3 : fc_1 PRD (20, [0], [50, 1, 0, 49, 1, 3, 2, 0, 49, 0, -1]) ws (vs ++ [Value.int x]) := by
    refine ⟨nf_inA hl rfl, sgq_1675 ?_⟩
    · show w_fi ws (n_v (vs ++ [Value.int x]) 0) 49 = (-1)
      rw [e_0]
      exact vc_Mo_stOrder_35_3 (v_iv (n_v vs 4)) (w_ei ws (w_ar ws (n_v vs 0) 33)) (w_ei ws (w_ar ws (n_v vs 0) 34)) (w_fi ws (n_v vs 0) 31) (w_fi ws (n_v vs 0) 32) (w_ei ws (w_ar ws (n_v vs 0) 35)) (w_ei ws (w_ar ws (n_v vs 0) 117)) (w_fi ws (n_v vs 0) 125) (w_fi ws (n_v vs 0) 49) (v_iv (Value.int x)) k4 f0 f1 f2 f3 f4 f5 hK_0_33 hK_0_34 hK_0_35 hK_0_117 kz_0_31 kz_0_32 kz_0_49 kz_0_125 ex2 ex3
  have nf4 : fc_1 PRD (20, [0, 5], [30, -26, -1, 1, 125, -1, 0, 0]) ws (vs ++ [Value.int x]) := by
    refine ⟨nf_inA hl rfl, sgq_1750 ?_⟩
    · show (-1) * w_fi ws (n_v (vs ++ [Value.int x]) 0) 125 + ((-1) * v_iv (n_v (vs ++ [Value.int x]) 5) + 0) ≤ (-26)
      simp only [e_0, e_5]
      exact vc_Mo_stOrder_35_4 (v_iv (n_v vs 4)) (w_ei ws (w_ar ws (n_v vs 0) 33)) (w_ei ws (w_ar ws (n_v vs 0) 34)) (w_fi ws (n_v vs 0) 31) (w_fi ws (n_v vs 0) 32) (w_ei ws (w_ar ws (n_v vs 0) 35)) (w_ei ws (w_ar ws (n_v vs 0) 117)) (w_fi ws (n_v vs 0) 125) (w_fi ws (n_v vs 0) 49) (v_iv (Value.int x)) k4 f0 f1 f2 f3 f4 f5 hK_0_33 hK_0_34 hK_0_35 hK_0_117 kz_0_31 kz_0_32 kz_0_49 kz_0_125 ex2 ex3
  obtain ⟨x0, e0, _, _⟩ := tv_int t4 rfl
  have e1 : v_iv (n_v vs 4) = x0.toInt := by rw [e0]; rfl
  have ho : sy_ofs (vs ++ [Value.int x]) (5, 4, -1000000000000, -1) := by
    refine ⟨x, x0, by rw [List.getElem?_append_right (by rw [hl]; decide), hl]; rfl, ?_, ?_, ?_⟩
    · rw [List.getElem?_append_left (by rw [hl]; decide)]; exact n_v_some (by rw [hl]; decide) e0
    · show x0.toInt + (-1000000000000) ≤ x.toInt; omega
    · show x.toInt ≤ x0.toInt + (-1); omega
  exact ⟨(fun _ h => (by cases h)), [Value.int x], ag_one hx, List.forall_mem_cons.mpr ⟨⟨show (20 : Nat) < 100 from by decide, nf0⟩, List.forall_mem_cons.mpr ⟨⟨show (20 : Nat) < 100 from by decide, nf1⟩, List.forall_mem_cons.mpr ⟨⟨show (20 : Nat) < 100 from by decide, nf2⟩, List.forall_mem_cons.mpr ⟨⟨show (20 : Nat) < 100 from by decide, nf3⟩, List.forall_mem_cons.mpr ⟨⟨show (20 : Nat) < 100 from by decide, nf4⟩, (fun _ h => (by cases h))⟩⟩⟩⟩⟩, List.forall_mem_cons.mpr ⟨ho, (fun _ h => (by cases h))⟩⟩
set_option maxHeartbeats 4000000 in
theorem vc_Mo_stOrder_36_r0 (x1 : Int) (x2 : Int) (x5 : Int) (row_0 : Int → Int) (rowMany_0 : Int) (pt_0 : Int → Int) (ph_0 : Int → Int) (pn_0 : Int) (k1 : 0 ≤ x1 ∧ x1 ≤ 26) (k2 : 1 ≤ x2 ∧ x2 ≤ 100) (k5 : 0 ≤ x5 ∧ x5 ≤ 75) (d0 : x2 + (-4294967296) ≤ x1 ∧ x1 ≤ x2 + (-1)) (h0 : x5 = row_0 (x1)) (f2 : x1 < x2) (g3 : x2 = rowMany_0) (f4 : STR (pn_0) (rowMany_0) (pt_0) (ph_0) (row_0)) (hK_0_33 : ∀ j : Int, 0 ≤ j → j < 80 → 0 ≤ pt_0 j ∧ pt_0 j ≤ 24) (hK_0_34 : ∀ j : Int, 0 ≤ j → j < 80 → 0 ≤ ph_0 j ∧ ph_0 j ≤ 24) (hK_0_117 : ∀ j : Int, 0 ≤ j → j < 100 → 0 ≤ row_0 j ∧ row_0 j ≤ 75) (kz_0_31 : 0 ≤ pn_0 ∧ pn_0 ≤ 25) (kz_0_125 : 0 ≤ rowMany_0 ∧ rowMany_0 ≤ 100) : 0 ≤ x5 ∧ x5 ≤ 24 := by
  first
    | omega
    | (have h := ‹STB _ _ _ _ _›.1.2.2; omega)
    | (have h := ‹STR _ _ _ _ _›.1; omega)
    | (have h := ‹STR _ _ _ _ _›.1
       have w := ‹STR _ _ _ _ _›.2.1 x1 (by omega) (by omega)
       omega)
    | (have h := bc_len ‹BC1 _ _ _ _ _ _ _›
       have h2 := ‹STR _ _ _ _ _›.1
       omega)
    | (have h := (sb_way ‹SB1 _ _ _ _ _ _ _ _ _ _ _ _› (by omega)).1
       have h2 := ‹STR _ _ _ _ _›.1
       omega)
    | (have h := ‹WYM _ _ _ _›.1
       have h2 := ‹STR _ _ _ _ _›.1
       omega)
set_option maxHeartbeats 4000000 in
theorem vc_Mo_stOrder_36_r1 (x1 : Int) (x2 : Int) (x5 : Int) (row_0 : Int → Int) (rowMany_0 : Int) (pt_0 : Int → Int) (ph_0 : Int → Int) (pn_0 : Int) (k1 : 0 ≤ x1 ∧ x1 ≤ 26) (k2 : 1 ≤ x2 ∧ x2 ≤ 100) (k5 : 0 ≤ x5 ∧ x5 ≤ 75) (d0 : x2 + (-4294967296) ≤ x1 ∧ x1 ≤ x2 + (-1)) (h0 : x5 = row_0 (x1)) (f2 : x1 < x2) (g3 : x2 = rowMany_0) (f4 : STR (pn_0) (rowMany_0) (pt_0) (ph_0) (row_0)) (hK_0_33 : ∀ j : Int, 0 ≤ j → j < 80 → 0 ≤ pt_0 j ∧ pt_0 j ≤ 24) (hK_0_34 : ∀ j : Int, 0 ≤ j → j < 80 → 0 ≤ ph_0 j ∧ ph_0 j ≤ 24) (hK_0_117 : ∀ j : Int, 0 ≤ j → j < 100 → 0 ≤ row_0 j ∧ row_0 j ≤ 75) (kz_0_31 : 0 ≤ pn_0 ∧ pn_0 ≤ 25) (kz_0_125 : 0 ≤ rowMany_0 ∧ rowMany_0 ≤ 100) : 0 ≤ x1 ∧ x1 ≤ 25 := by
  first
    | omega
    | (have h := ‹STB _ _ _ _ _›.1.2.2; omega)
    | (have h := ‹STR _ _ _ _ _›.1; omega)
    | (have h := ‹STR _ _ _ _ _›.1
       have w := ‹STR _ _ _ _ _›.2.1 x1 (by omega) (by omega)
       omega)
    | (have h := bc_len ‹BC1 _ _ _ _ _ _ _›
       have h2 := ‹STR _ _ _ _ _›.1
       omega)
    | (have h := (sb_way ‹SB1 _ _ _ _ _ _ _ _ _ _ _ _› (by omega)).1
       have h2 := ‹STR _ _ _ _ _›.1
       omega)
    | (have h := ‹WYM _ _ _ _›.1
       have h2 := ‹STR _ _ _ _ _›.1
       omega)
def o_Mo_stOrder_36 : or_T := (395, 6, [(0, (2, 0, 0, [165])), (1, (0, 0, 26, [])), (2, (0, 1, 100, [])), (4, (2, 0, 0, [249])), (5, (0, 0, 75, []))], [(10, [5, 4, 1], []), (9, [4, 0], [117]), (7, [1, 2], [2]), (9, [2, 0], [125]), (20, [0], [60, 2, 3, 298, 31, 125, 33, 34, 117])], [(5, (0, 0, 24, [])), (1, (0, 0, 25, []))], [], [], [], [(1, 2, -4294967296, -1)])
theorem oo_Mo_stOrder_36 {kA : Nat → ClassId} : or_ok PRD kA GG o_Mo_stOrder_36 := by
  refine or_mk fun A ta ws vs hD hth hl => ?_
  intro t0 r0 t1 k1 t2 k2 t4 r4 t5 k5 d0 f0 f1 f2 f3 f4
  replace f0 := shm_107 f0
  replace f1 := shm_713 f1
  replace f3 := shm_996 f3
  have cr_0_33 := fdq_117 hD hth r0
  have cr_0_34 := fdq_118 hD hth r0
  have cr_0_117 := fdq_181 hD hth r0
  have ad_4 : v_ad (n_v vs 4) = w_ar ws (n_v vs 0) 117 := congrArg v_ad f1
  simp only [ad_4] at f0
  have h0 : v_iv (n_v vs 5) = w_ei ws (w_ar ws (n_v vs 0) 117) (v_iv (n_v vs 1)) := f0
  have g3 : v_iv (n_v vs 2) = w_fi ws (n_v vs 0) 125 := congrArg v_iv f3
  have hK_0_33 := elq_60 hD hth cr_0_33
  have hK_0_34 := elq_61 hD hth cr_0_34
  have hK_0_117 := elq_108 hD hth cr_0_117
  have kz_0_31 := fdq_145 hD hth r0
  have kz_0_125 := fdq_182 hD hth r0
  have hrf0 : 0 ≤ v_iv (n_v vs 5) ∧ v_iv (n_v vs 5) ≤ 24 := vc_Mo_stOrder_36_r0 (v_iv (n_v vs 1)) (v_iv (n_v vs 2)) (v_iv (n_v vs 5)) (w_ei ws (w_ar ws (n_v vs 0) 117)) (w_fi ws (n_v vs 0) 125) (w_ei ws (w_ar ws (n_v vs 0) 33)) (w_ei ws (w_ar ws (n_v vs 0) 34)) (w_fi ws (n_v vs 0) 31) k1 k2 k5 d0 h0 (shm_6 f2) g3 (shm_1001 f4) hK_0_33 hK_0_34 hK_0_117 kz_0_31 kz_0_125
  have hrf1 : 0 ≤ v_iv (n_v vs 1) ∧ v_iv (n_v vs 1) ≤ 25 := vc_Mo_stOrder_36_r1 (v_iv (n_v vs 1)) (v_iv (n_v vs 2)) (v_iv (n_v vs 5)) (w_ei ws (w_ar ws (n_v vs 0) 117)) (w_fi ws (n_v vs 0) 125) (w_ei ws (w_ar ws (n_v vs 0) 33)) (w_ei ws (w_ar ws (n_v vs 0) 34)) (w_fi ws (n_v vs 0) 31) k1 k2 k5 d0 h0 (shm_6 f2) g3 (shm_1001 f4) hK_0_33 hK_0_34 hK_0_117 kz_0_31 kz_0_125
  have rf5 : tv_ok ta (0, 0, 24, []) (n_v vs 5) := tv_in t5 (by first | omega | grind) (by first | omega | grind)
  have rf1 : tv_ok ta (0, 0, 25, []) (n_v vs 1) := tv_in t1 (by first | omega | grind) (by first | omega | grind)
  refine ⟨List.forall_mem_cons.mpr ⟨rf5, List.forall_mem_cons.mpr ⟨rf1, (fun _ h => (by cases h))⟩⟩, [], trivial, ?_, (fun _ h => (by cases h))⟩
  rw [List.append_nil]
  exact (fun _ h => (by cases h))
def n_Mo_stOrder_an : List an_T := [(34, [(0, (2, 0, 0, [165]))], [], (0, 0), [(0, 0, 99966), (2, 1, (Int.negSucc 1)), (0, 0, 100000), (0, 0, 0), (0, 0, 0), (0, 0, 0), (0, 0, 0), (0, 0, 0), (0, 0, 0)], [], [], [], 0, [(0, (Int.negSucc 1), 26, [])], [(20, [0], [60, 2, 2, 75, 31, 32, 33, 34]), (20, [0], [60, 2, 3, 297, 31, 32, 33, 34, 35]), (20, [0], [60, 2, 3, 298, 31, 125, 33, 34, 117]), (20, [0], [50, 1, 0, 49, 1, 3, 2, 0, 49, 0, (Int.negSucc 0)]), (20, [0, 1], [30, (Int.negSucc 25), (Int.negSucc 0), 1, 125, (Int.negSucc 0), 0, 0])]), (47, [(0, (2, 0, 0, [165])), (1, (0, 0, 25, []))], [], (0, 0), [(0, 0, 99966), (2, 2, (Int.negSucc 1)), (0, 0, 99953), (1, 1, 25), (0, 0, 100000), (0, 0, 0), (0, 0, 0), (0, 0, 0), (0, 0, 0)], [], [], [], 0, [(0, (Int.negSucc 1), 26, [])], [(20, [0], [60, 2, 2, 75, 31, 32, 33, 34]), (20, [0], [60, 2, 3, 297, 31, 32, 33, 34, 35]), (20, [0], [60, 2, 3, 298, 31, 125, 33, 34, 117]), (20, [0], [50, 1, 0, 49, 1, 3, 2, 0, 49, 0, (Int.negSucc 0)]), (20, [0, 2], [30, (Int.negSucc 25), (Int.negSucc 0), 1, 125, (Int.negSucc 0), 0, 0]), (20, [0, 1], [60, 0, 1, 299, 42]), (20, [0], [50, 2, 0, 125, 31, 0, 7, 4, 3, 2, 0, 125, 0, 1, 2, 0, 31])]), (70, [(0, (2, 0, 0, [165])), (1, (0, 0, 100, []))], [], (0, 0), [(0, 0, 99966), (2, 2, (Int.negSucc 1)), (0, 0, 99930), (1, 1, 100), (0, 0, 100000), (0, 0, 0), (0, 0, 0), (0, 0, 0), (0, 0, 0)], [], [], [], 0, [(0, (Int.negSucc 1), 26, [])], [(20, [0], [60, 2, 2, 75, 31, 32, 33, 34]), (20, [0], [60, 2, 3, 297, 31, 32, 33, 34, 35]), (20, [0], [60, 2, 3, 298, 31, 125, 33, 34, 117]), (20, [0], [50, 1, 0, 49, 1, 3, 2, 0, 49, 0, (Int.negSucc 0)]), (20, [0, 2], [30, (Int.negSucc 25), (Int.negSucc 0), 1, 125, (Int.negSucc 0), 0, 0]), (20, [0, 1], [60, 1, 2, 300, 31, 42, 117]), (20, [1, 0], [30, 0, 1, 0, 0, (Int.negSucc 0), 1, 125]), (20, [0], [50, 2, 0, 125, 31, 0, 7, 4, 3, 2, 0, 125, 0, 1, 2, 0, 31])]), (98, [(0, (2, 0, 0, [165])), (1, (0, 0, 80, []))], [], (0, 0), [(0, 0, 99966), (2, 2, (Int.negSucc 1)), (0, 0, 99902), (1, 1, 80), (0, 0, 100000), (0, 0, 0), (0, 0, 0), (0, 0, 0), (0, 0, 0)], [], [], [], 0, [(0, (Int.negSucc 1), 26, [])], [(20, [0], [60, 2, 2, 75, 31, 32, 33, 34]), (20, [0], [60, 2, 3, 297, 31, 32, 33, 34, 35]), (20, [0], [60, 2, 3, 298, 31, 125, 33, 34, 117]), (20, [0], [50, 1, 0, 49, 1, 3, 2, 0, 49, 0, (Int.negSucc 0)]), (20, [0, 2], [30, (Int.negSucc 25), (Int.negSucc 0), 1, 125, (Int.negSucc 0), 0, 0]), (20, [0], [60, 2, 2, 301, 31, 125, 42, 117]), (20, [0, 1], [60, 0, 4, 302, 33, 34, 42, 43]), (20, [0], [50, 2, 0, 125, 31, 0, 7, 4, 3, 2, 0, 125, 0, 1, 2, 0, 31])]), (155, [(0, (2, 0, 0, [165])), (1, (0, 0, 30, [])), (2, (0, 0, 25, []))], [], (0, 0), [(0, 0, 99966), (2, 3, (Int.negSucc 1)), (0, 0, 99845), (1, 2, 25), (0, 0, 100000), (0, 0, 0), (0, 0, 0), (0, 0, 0), (0, 0, 0)], [], [], [], 0, [(0, (Int.negSucc 1), 26, [])], [(20, [0], [60, 2, 2, 75, 31, 32, 33, 34]), (20, [0], [60, 2, 3, 297, 31, 32, 33, 34, 35]), (20, [0], [60, 2, 3, 298, 31, 125, 33, 34, 117]), (20, [0], [50, 1, 0, 49, 1, 3, 2, 0, 49, 0, (Int.negSucc 0)]), (20, [0, 3], [30, (Int.negSucc 25), (Int.negSucc 0), 1, 125, (Int.negSucc 0), 0, 0]), (20, [0], [60, 2, 2, 301, 31, 125, 42, 117]), (20, [0], [60, 1, 4, 303, 32, 33, 34, 42, 43]), (20, [0], [60, 1, 2, 122, 32, 35, 43]), (20, [0], [50, 2, 0, 125, 31, 0, 7, 4, 3, 2, 0, 125, 0, 1, 2, 0, 31]), (20, [0, 1, 2], [60, 3, 6, 305, 31, 32, 49, 33, 34, 43, 44, 42, 52])]), (181, [(0, (2, 0, 0, [165])), (1, (0, 0, 30, [])), (2, (0, 0, 24, [])), (3, (0, 0, 25, []))], [], (0, 0), [(0, 0, 99966), (2, 4, (Int.negSucc 1)), (0, 0, 99845), (1, 2, 25), (0, 0, 99819), (1, 3, 25), (0, 0, 100000), (0, 0, 0), (0, 0, 0)], [], [], [], 0, [(0, (Int.negSucc 1), 26, [])], [(20, [0], [60, 2, 2, 75, 31, 32, 33, 34]), (20, [0], [60, 2, 3, 297, 31, 32, 33, 34, 35]), (20, [0], [60, 2, 3, 298, 31, 125, 33, 34, 117]), (20, [0], [50, 1, 0, 49, 1, 3, 2, 0, 49, 0, (Int.negSucc 0)]), (20, [0, 4], [30, (Int.negSucc 25), (Int.negSucc 0), 1, 125, (Int.negSucc 0), 0, 0]), (20, [0], [60, 2, 2, 301, 31, 125, 42, 117]), (20, [0], [60, 1, 4, 303, 32, 33, 34, 42, 43]), (20, [0], [60, 1, 2, 122, 32, 35, 43]), (20, [0], [50, 2, 0, 125, 31, 0, 7, 4, 3, 2, 0, 125, 0, 1, 2, 0, 31]), (20, [0, 1, 2, 3], [60, 3, 6, 306, 31, 32, 49, 33, 34, 43, 44, 42, 52]), (20, [2, 0], [30, (Int.negSucc 0), 1, 0, 0, (Int.negSucc 0), 1, 31]), (20, [0, 2], [50, 0, 1, 42, 7, 5, 3, 0, 42, 1, 1, 0, 0])]), (253, [(0, (2, 0, 0, [165])), (1, (0, 1, 30, [])), (2, (0, 0, 24, [])), (3, (0, 0, 24, [])), (4, (0, 0, 1, [])), (5, (0, 0, 30, []))], [], (0, 0), [(0, 0, 99966), (2, 6, (Int.negSucc 1)), (0, 0, 99845), (1, 2, 25), (0, 0, 99819), (1, 3, 25), (0, 0, 99747), (1, 5, 30), (0, 0, 100000)], [(4, 1, (Int.negSucc 999999999999), (Int.negSucc 0)), (5, 1, (Int.negSucc 999999999999), 0)], [], [], 0, [(0, (Int.negSucc 1), 26, [])], [(20, [0], [60, 2, 2, 75, 31, 32, 33, 34]), (20, [0], [60, 2, 3, 297, 31, 32, 33, 34, 35]), (20, [0], [60, 2, 3, 298, 31, 125, 33, 34, 117]), (20, [0], [50, 1, 0, 49, 1, 3, 2, 0, 49, 0, (Int.negSucc 0)]), (20, [0, 6], [30, (Int.negSucc 25), (Int.negSucc 0), 1, 125, (Int.negSucc 0), 0, 0]), (20, [0], [60, 2, 2, 301, 31, 125, 42, 117]), (20, [0], [60, 1, 4, 303, 32, 33, 34, 42, 43]), (20, [0], [60, 1, 2, 122, 32, 35, 43]), (20, [0], [50, 2, 0, 125, 31, 0, 7, 4, 3, 2, 0, 125, 0, 1, 2, 0, 31]), (20, [0, 1, 2, 3], [60, 3, 6, 306, 31, 32, 49, 33, 34, 43, 44, 42, 52]), (20, [0], [60, 2, 2, 304, 31, 45, 42, 46]), (20, [2, 0], [30, (Int.negSucc 0), 1, 0, 0, (Int.negSucc 0), 1, 31]), (20, [3, 0], [30, (Int.negSucc 0), 1, 0, 0, (Int.negSucc 0), 1, 31]), (20, [0, 2], [50, 0, 1, 42, 7, 5, 3, 0, 42, 1, 1, 0, 0]), (20, [1, 0], [50, 1, 0, 1045, 1, 2, 1, 0, 2, 1, 45])]), (328, [(0, (2, 0, 0, [165])), (1, (0, 0, 30, [])), (2, (0, 0, 24, [])), (3, (0, 0, 24, [])), (4, (0, 1, 1, [])), (5, (0, 0, 30, []))], [], (0, 0), [(0, 0, 99966), (2, 6, (Int.negSucc 1)), (0, 0, 99845), (1, 2, 25), (0, 0, 99819), (1, 3, 25), (0, 0, 99672), (1, 5, 30), (0, 0, 100000)], [(5, 1, (Int.negSucc 999999999999), 0)], [], [], 0, [(0, (Int.negSucc 1), 26, [])], [(20, [0], [60, 2, 2, 75, 31, 32, 33, 34]), (20, [0], [60, 2, 3, 297, 31, 32, 33, 34, 35]), (20, [0], [60, 2, 3, 298, 31, 125, 33, 34, 117]), (20, [0], [50, 1, 0, 49, 1, 3, 2, 0, 49, 0, (Int.negSucc 0)]), (20, [0, 6], [30, (Int.negSucc 25), (Int.negSucc 0), 1, 125, (Int.negSucc 0), 0, 0]), (20, [0], [60, 2, 2, 301, 31, 125, 42, 117]), (20, [0], [60, 1, 4, 303, 32, 33, 34, 42, 43]), (20, [0], [60, 1, 2, 122, 32, 35, 43]), (20, [0], [50, 2, 0, 125, 31, 0, 7, 4, 3, 2, 0, 125, 0, 1, 2, 0, 31]), (20, [0, 1, 5], [60, 2, 3, 307, 31, 45, 42, 46, 52]), (20, [2, 0], [30, (Int.negSucc 0), 1, 0, 0, (Int.negSucc 0), 1, 31]), (20, [3, 0], [30, (Int.negSucc 0), 1, 0, 0, (Int.negSucc 0), 1, 31]), (20, [0, 2], [50, 0, 1, 42, 7, 5, 3, 0, 42, 1, 1, 0, 0])]), (371, [(0, (2, 0, 0, [165])), (1, (0, 0, 30, [])), (2, (0, 0, 25, []))], [], (0, 0), [(0, 0, 99966), (2, 4, (Int.negSucc 1)), (0, 0, 99629), (0, 0, 0), (0, 0, 0), (0, 0, 0), (0, 0, 0), (0, 0, 0), (0, 0, 0)], [], [((0, 31), (0, 0, 25, []))], [], 0, [(0, (Int.negSucc 1), 26, [])], [(20, [0], [60, 2, 2, 75, 31, 32, 33, 34]), (20, [0], [60, 2, 3, 297, 31, 32, 33, 34, 35]), (20, [0], [60, 2, 3, 298, 31, 125, 33, 34, 117]), (20, [0], [50, 1, 0, 49, 1, 3, 2, 0, 49, 0, (Int.negSucc 0)]), (20, [0, 4], [30, (Int.negSucc 26), (Int.negSucc 0), 1, 125, (Int.negSucc 0), 0, 0]), (23, [4], [(Int.negSucc 0), (Int.negSucc 0)])]), (376, [(0, (2, 0, 0, [165])), (1, (0, 0, 26, []))], [], (0, 0), [(0, 0, 99624), (1, 1, 26), (0, 0, 100000), (0, 0, 0), (0, 0, 0), (0, 0, 0), (0, 0, 0), (0, 0, 0), (0, 0, 0)], [], [], [], 0, [], [(20, [0], [60, 2, 3, 298, 31, 125, 33, 34, 117])])]
def t_Mo_stOrder_ct : ct_L := [(1, 615, e_Mo_shortest), (1, 939, e_Mo_insert)]
set_option maxRecDepth 100000 in
theorem c_Mo_stOrder {l : Launch} {D : va_G} {kA : Nat → ClassId} (h_Mo_insert : ct_ok PRD l D kA GG y_Mo_insert z_Mo_insert e_Mo_insert) (h_Mo_shortest : ct_ok PRD l D kA GG y_Mo_shortest z_Mo_shortest e_Mo_shortest) : ct_ok PRD l D kA GG y_Mo_stOrder z_Mo_stOrder e_Mo_stOrder := chk_all_ok (FT := [(57, 13, 33), (60, 13, 34), (81, 13, 42), (84, 13, 43), (90, 13, 46), (102, 13, 52), (265, 13, 117), (284, 13, 124), (594, 13, 31), (597, 13, 32), (619, 13, 45), (936, 13, 125)]) (PT := [(649, 13, 49, .int), (936, 13, 125, .int)]) (CT := t_Mo_stOrder_ct) (KT := []) (NT := []) (AN := n_Mo_stOrder_an) (OT := [o_Mo_stOrder_0, o_Mo_stOrder_1, o_Mo_stOrder_2, o_Mo_stOrder_3, o_Mo_stOrder_4, o_Mo_stOrder_5, o_Mo_stOrder_6, o_Mo_stOrder_7, o_Mo_stOrder_8, o_Mo_stOrder_9, o_Mo_stOrder_10, o_Mo_stOrder_11, o_Mo_stOrder_12, o_Mo_stOrder_13, o_Mo_stOrder_14, o_Mo_stOrder_15, o_Mo_stOrder_16, o_Mo_stOrder_17, o_Mo_stOrder_18, o_Mo_stOrder_19, o_Mo_stOrder_20, o_Mo_stOrder_21, o_Mo_stOrder_22, o_Mo_stOrder_23, o_Mo_stOrder_24, o_Mo_stOrder_25, o_Mo_stOrder_26, o_Mo_stOrder_27, o_Mo_stOrder_28, o_Mo_stOrder_29, o_Mo_stOrder_30, o_Mo_stOrder_31, o_Mo_stOrder_32, o_Mo_stOrder_33, o_Mo_stOrder_34, o_Mo_stOrder_35, o_Mo_stOrder_36]) 9 1272 (List.forall_mem_cons.mpr ⟨oo_Mo_stOrder_0, List.forall_mem_cons.mpr ⟨oo_Mo_stOrder_1, List.forall_mem_cons.mpr ⟨oo_Mo_stOrder_2, List.forall_mem_cons.mpr ⟨oo_Mo_stOrder_3, List.forall_mem_cons.mpr ⟨oo_Mo_stOrder_4, List.forall_mem_cons.mpr ⟨oo_Mo_stOrder_5, List.forall_mem_cons.mpr ⟨oo_Mo_stOrder_6, List.forall_mem_cons.mpr ⟨oo_Mo_stOrder_7, List.forall_mem_cons.mpr ⟨oo_Mo_stOrder_8, List.forall_mem_cons.mpr ⟨oo_Mo_stOrder_9, List.forall_mem_cons.mpr ⟨oo_Mo_stOrder_10, List.forall_mem_cons.mpr ⟨oo_Mo_stOrder_11, List.forall_mem_cons.mpr ⟨oo_Mo_stOrder_12, List.forall_mem_cons.mpr ⟨oo_Mo_stOrder_13, List.forall_mem_cons.mpr ⟨oo_Mo_stOrder_14, List.forall_mem_cons.mpr ⟨oo_Mo_stOrder_15, List.forall_mem_cons.mpr ⟨oo_Mo_stOrder_16, List.forall_mem_cons.mpr ⟨oo_Mo_stOrder_17, List.forall_mem_cons.mpr ⟨oo_Mo_stOrder_18, List.forall_mem_cons.mpr ⟨oo_Mo_stOrder_19, List.forall_mem_cons.mpr ⟨oo_Mo_stOrder_20, List.forall_mem_cons.mpr ⟨oo_Mo_stOrder_21, List.forall_mem_cons.mpr ⟨oo_Mo_stOrder_22, List.forall_mem_cons.mpr ⟨oo_Mo_stOrder_23, List.forall_mem_cons.mpr ⟨oo_Mo_stOrder_24, List.forall_mem_cons.mpr ⟨oo_Mo_stOrder_25, List.forall_mem_cons.mpr ⟨oo_Mo_stOrder_26, List.forall_mem_cons.mpr ⟨oo_Mo_stOrder_27, List.forall_mem_cons.mpr ⟨oo_Mo_stOrder_28, List.forall_mem_cons.mpr ⟨oo_Mo_stOrder_29, List.forall_mem_cons.mpr ⟨oo_Mo_stOrder_30, List.forall_mem_cons.mpr ⟨oo_Mo_stOrder_31, List.forall_mem_cons.mpr ⟨oo_Mo_stOrder_32, List.forall_mem_cons.mpr ⟨oo_Mo_stOrder_33, List.forall_mem_cons.mpr ⟨oo_Mo_stOrder_34, List.forall_mem_cons.mpr ⟨oo_Mo_stOrder_35, List.forall_mem_cons.mpr ⟨oo_Mo_stOrder_36, List.forall_mem_nil _⟩⟩⟩⟩⟩⟩⟩⟩⟩⟩⟩⟩⟩⟩⟩⟩⟩⟩⟩⟩⟩⟩⟩⟩⟩⟩⟩⟩⟩⟩⟩⟩⟩⟩⟩⟩⟩) (by decide +kernel) ⟨List.forall_mem_cons.mpr ⟨gf_Mo_57, List.forall_mem_cons.mpr ⟨gf_Mo_60, List.forall_mem_cons.mpr ⟨gf_Mo_81, List.forall_mem_cons.mpr ⟨gf_Mo_84, List.forall_mem_cons.mpr ⟨gf_Mo_90, List.forall_mem_cons.mpr ⟨gf_Mo_102, List.forall_mem_cons.mpr ⟨gf_Mo_265, List.forall_mem_cons.mpr ⟨gf_Mo_284, List.forall_mem_cons.mpr ⟨gf_Mo_594, List.forall_mem_cons.mpr ⟨gf_Mo_597, List.forall_mem_cons.mpr ⟨gf_Mo_619, List.forall_mem_cons.mpr ⟨gf_Mo_936, List.forall_mem_nil _⟩⟩⟩⟩⟩⟩⟩⟩⟩⟩⟩⟩, List.forall_mem_cons.mpr ⟨pf_Mo_649, List.forall_mem_cons.mpr ⟨pf_Mo_936, List.forall_mem_nil _⟩⟩, List.forall_mem_cons.mpr ⟨cl_virtual (y := y_Mo_shortest) (ci := 13) rfl rfl ⟨_, _, rfl⟩ (by decide +kernel) h_Mo_shortest wm_3182 wm_9 wm_3179 wm_3181 wv_15_4 ⟨by decide, by decide, by decide +kernel⟩ (by decide), List.forall_mem_cons.mpr ⟨cl_virtual (y := y_Mo_insert) (ci := 13) rfl rfl ⟨_, _, rfl⟩ (by decide +kernel) h_Mo_insert wm_3534 wm_9 wm_3531 wm_3533 wv_20_3 ⟨by decide, by decide, by decide +kernel⟩ (by decide), List.forall_mem_nil _⟩⟩, List.forall_mem_nil _, List.forall_mem_nil _, GG_pl⟩ (by decide +kernel)

set_option maxHeartbeats 4000000 in
theorem vc_Ho_drawLine_0_0 (x2 : Int) (x3 : Int) (x6 : Int) (x_0o1 : Int → Int) (bends_0o1 : Int → Int) (bendX_0o1 : Int → Int) (tail_0o5 : Int → Int) (head_0o5 : Int → Int) (leastX_0o1 : Int) (mostX_0o1 : Int) (nodes_0o5 : Int) (edges_0o5 : Int) (y_0o1 : Int → Int) (bendY_0o1 : Int → Int) (leastY_0o1 : Int) (mostY_0o1 : Int) (k2 : 0 ≤ x2 ∧ x2 ≤ 47) (k3 : 1 ≤ x3 ∧ x3 ≤ 24) (k6 : (-40000000) ≤ x6 ∧ x6 ≤ 690000000) (f0 : PTX (x_0o1) (bends_0o1) (bendX_0o1) (tail_0o5) (head_0o5) (x2) (x3) (x6)) (f1 : MSX (leastX_0o1) (mostX_0o1) (nodes_0o5) (edges_0o5) (x_0o1) (bends_0o1) (bendX_0o1)) (f3 : GKE (nodes_0o5) (edges_0o5) (tail_0o5) (head_0o5)) (f4 : (0 ≤ x2) ∧ ((x2 + 1) ≤ edges_0o5)) (f5 : 0 ≤ x3) (kz_1_17 : (-41000000) ≤ leastX_0o1 ∧ leastX_0o1 ≤ 690000000) (kz_1_19 : (-40000000) ≤ mostX_0o1 ∧ mostX_0o1 ≤ 1001000000) (kz_5_0 : 0 ≤ nodes_0o5 ∧ nodes_0o5 ≤ 24) (kz_5_1 : 0 ≤ edges_0o5 ∧ edges_0o5 ≤ 48) : (leastX_0o1 ≤ x6) ∧ (x6 ≤ mostX_0o1) := by
  first
    | omega
    | assumption
    | (have h := ptx_in (an := x6) (show MSX leastX_0o1 mostX_0o1 nodes_0o5 edges_0o5 x_0o1 bends_0o1 bendX_0o1 by assumption) ‹GKE _ _ _ _› (show PTX x_0o1 bends_0o1 bendX_0o1 tail_0o5 head_0o5 _ _ x6 by assumption) (by omega) (by omega) (by omega)
       omega)
    | (have h := ptx_in (an := x14) (show MSX leastX_0o1 mostX_0o1 nodes_0o5 edges_0o5 x_0o1 bends_0o1 bendX_0o1 by assumption) ‹GKE _ _ _ _› (show PTX x_0o1 bends_0o1 bendX_0o1 tail_0o5 head_0o5 _ _ x14 by assumption) (by omega) (by omega) (by omega)
       omega)
    | (have h := ptx_in (an := x9) (show MSX leastY_0o1 mostY_0o1 nodes_0o5 edges_0o5 y_0o1 bends_0o1 bendY_0o1 by assumption) ‹GKE _ _ _ _› (show PTX y_0o1 bends_0o1 bendY_0o1 tail_0o5 head_0o5 _ _ x9 by assumption) (by omega) (by omega) (by omega)
       omega)
    | (have h := ptx_in (an := x18) (show MSX leastY_0o1 mostY_0o1 nodes_0o5 edges_0o5 y_0o1 bends_0o1 bendY_0o1 by assumption) ‹GKE _ _ _ _› (show PTX y_0o1 bends_0o1 bendY_0o1 tail_0o5 head_0o5 _ _ x18 by assumption) (by omega) (by omega) (by omega)
       omega)
  
def o_Ho_drawLine_0 : or_T := (11, 8, [(1, (2, 0, 0, [0])), (2, (0, 0, 47, [])), (3, (0, 1, 24, [])), (5, (2, 0, 0, [3])), (6, (0, -40000000, 690000000, []))], [(20, [1, 5, 2, 3, 6], [60, 0, 5, 933, 2, 4, 5, 1007, 1008]), (20, [1, 5], [60, 4, 3, 932, 17, 19, 1000, 1001, 2, 4, 5]), (20, [1, 5], [60, 4, 3, 939, 18, 20, 1000, 1001, 3, 4, 6]), (20, [5], [60, 2, 2, 596, 0, 1, 7, 8]), (20, [2, 5], [50, 1, 0, 1001, 2, 6, 0, 2, 0, 0, 1, 0, 0, 6, 4, 2, 1, 0, 0, 1, 2, 1, 1]), (20, [3], [50, 0, 0, 0, 2, 0, 0, 1, 0])], [], [], [(20, [1, 6], [50, 2, 0, 17, 19, 2, 7, 0, 3, 2, 0, 17, 1, 1, 0, 2, 1, 1, 2, 0, 19])], [], [])
theorem oo_Ho_drawLine_0 {kA : Nat → ClassId} : or_ok PRD kA GG o_Ho_drawLine_0 := by
  refine or_mk fun A ta ws vs hD hth hl => ?_
  intro t1 r1 t2 k2 t3 k3 t5 r5 t6 k6 f0 f1 f2 f3 f4 f5
  have kz_1_17 := fdq_198 hD hth r1
  have kz_1_19 := fdq_199 hD hth r1
  have kz_5_0 := fdq_21 hD hth r5
  have kz_5_1 := fdq_30 hD hth r5
  have nf0 : fc_1 PRD (20, [1, 6], [50, 2, 0, 17, 19, 2, 7, 0, 3, 2, 0, 17, 1, 1, 0, 2, 1, 1, 2, 0, 19]) ws (vs) := ⟨nf_in hl rfl, sgq_798 (vc_Ho_drawLine_0_0 (v_iv (n_v vs 2)) (v_iv (n_v vs 3)) (v_iv (n_v vs 6)) (w_ei ws (w_ar ws (n_v vs 1) 2)) (w_ei ws (w_ar ws (n_v vs 1) 4)) (w_ei ws (w_ar ws (n_v vs 1) 5)) (w_ei ws (w_ar ws (n_v vs 5) 7)) (w_ei ws (w_ar ws (n_v vs 5) 8)) (w_fi ws (n_v vs 1) 17) (w_fi ws (n_v vs 1) 19) (w_fi ws (n_v vs 5) 0) (w_fi ws (n_v vs 5) 1) (w_ei ws (w_ar ws (n_v vs 1) 3)) (w_ei ws (w_ar ws (n_v vs 1) 6)) (w_fi ws (n_v vs 1) 18) (w_fi ws (n_v vs 1) 20) k2 k3 k6 (shm_343 f0) (shm_1490 f1) (shm_386 f3) (shm_387 f4) (shm_722 f5) kz_1_17 kz_1_19 kz_5_0 kz_5_1)⟩
  refine ⟨(fun _ h => (by cases h)), [], trivial, ?_, (fun _ h => (by cases h))⟩
  rw [List.append_nil]
  exact List.forall_mem_cons.mpr ⟨⟨show (20 : Nat) < 100 from by decide, nf0⟩, (fun _ h => (by cases h))⟩
set_option maxHeartbeats 4000000 in
theorem vc_Ho_drawLine_1_0 (x2 : Int) (x3 : Int) (x6 : Int) (x9 : Int) (y_0o1 : Int → Int) (bends_0o1 : Int → Int) (bendY_0o1 : Int → Int) (tail_0o5 : Int → Int) (head_0o5 : Int → Int) (leastX_0o1 : Int) (mostX_0o1 : Int) (x_0o1 : Int → Int) (bendX_0o1 : Int → Int) (nodes_0o5 : Int) (edges_0o5 : Int) (leastY_0o1 : Int) (mostY_0o1 : Int) (k2 : 0 ≤ x2 ∧ x2 ≤ 47) (k3 : 1 ≤ x3 ∧ x3 ≤ 24) (k9 : (-40000000) ≤ x9 ∧ x9 ≤ 690000000) (f0 : PTY (y_0o1) (bends_0o1) (bendY_0o1) (tail_0o5) (head_0o5) (x2) (x3) (x9)) (f4 : MSY (leastY_0o1) (mostY_0o1) (nodes_0o5) (edges_0o5) (y_0o1) (bends_0o1) (bendY_0o1)) (f5 : GKE (nodes_0o5) (edges_0o5) (tail_0o5) (head_0o5)) (f6 : (0 ≤ x2) ∧ ((x2 + 1) ≤ edges_0o5)) (f7 : 0 ≤ x3) (kz_1_18 : (-41000000) ≤ leastY_0o1 ∧ leastY_0o1 ≤ 690000000) (kz_1_20 : (-40000000) ≤ mostY_0o1 ∧ mostY_0o1 ≤ 1001000000) (kz_5_0 : 0 ≤ nodes_0o5 ∧ nodes_0o5 ≤ 24) (kz_5_1 : 0 ≤ edges_0o5 ∧ edges_0o5 ≤ 48) : (leastY_0o1 ≤ x9) ∧ (x9 ≤ mostY_0o1) := by
  first
    | omega
    | assumption
    | (have h := ptx_in (an := x6) (show MSX leastX_0o1 mostX_0o1 nodes_0o5 edges_0o5 x_0o1 bends_0o1 bendX_0o1 by assumption) ‹GKE _ _ _ _› (show PTX x_0o1 bends_0o1 bendX_0o1 tail_0o5 head_0o5 _ _ x6 by assumption) (by omega) (by omega) (by omega)
       omega)
    | (have h := ptx_in (an := x14) (show MSX leastX_0o1 mostX_0o1 nodes_0o5 edges_0o5 x_0o1 bends_0o1 bendX_0o1 by assumption) ‹GKE _ _ _ _› (show PTX x_0o1 bends_0o1 bendX_0o1 tail_0o5 head_0o5 _ _ x14 by assumption) (by omega) (by omega) (by omega)
       omega)
    | (have h := ptx_in (an := x9) (show MSX leastY_0o1 mostY_0o1 nodes_0o5 edges_0o5 y_0o1 bends_0o1 bendY_0o1 by assumption) ‹GKE _ _ _ _› (show PTX y_0o1 bends_0o1 bendY_0o1 tail_0o5 head_0o5 _ _ x9 by assumption) (by omega) (by omega) (by omega)
       omega)
    | (have h := ptx_in (an := x18) (show MSX leastY_0o1 mostY_0o1 nodes_0o5 edges_0o5 y_0o1 bends_0o1 bendY_0o1 by assumption) ‹GKE _ _ _ _› (show PTX y_0o1 bends_0o1 bendY_0o1 tail_0o5 head_0o5 _ _ x18 by assumption) (by omega) (by omega) (by omega)
       omega)
  
def o_Ho_drawLine_1 : or_T := (27, 11, [(1, (2, 0, 0, [0])), (2, (0, 0, 47, [])), (3, (0, 1, 24, [])), (5, (2, 0, 0, [3])), (6, (0, -40000000, 690000000, [])), (9, (0, -40000000, 690000000, []))], [(20, [1, 5, 2, 3, 9], [60, 0, 5, 940, 3, 4, 6, 1007, 1008]), (20, [1, 6], [50, 2, 0, 17, 19, 2, 7, 0, 3, 2, 0, 17, 1, 1, 0, 2, 1, 1, 2, 0, 19]), (20, [1, 5, 2, 3, 6], [60, 0, 5, 933, 2, 4, 5, 1007, 1008]), (20, [1, 5], [60, 4, 3, 932, 17, 19, 1000, 1001, 2, 4, 5]), (20, [1, 5], [60, 4, 3, 939, 18, 20, 1000, 1001, 3, 4, 6]), (20, [5], [60, 2, 2, 596, 0, 1, 7, 8]), (20, [2, 5], [50, 1, 0, 1001, 2, 6, 0, 2, 0, 0, 1, 0, 0, 6, 4, 2, 1, 0, 0, 1, 2, 1, 1]), (20, [3], [50, 0, 0, 0, 2, 0, 0, 1, 0])], [], [], [(20, [1, 9], [50, 2, 0, 18, 20, 2, 7, 0, 3, 2, 0, 18, 1, 1, 0, 2, 1, 1, 2, 0, 20])], [], [])
theorem oo_Ho_drawLine_1 {kA : Nat → ClassId} : or_ok PRD kA GG o_Ho_drawLine_1 := by
  refine or_mk fun A ta ws vs hD hth hl => ?_
  intro t1 r1 t2 k2 t3 k3 t5 r5 t6 k6 t9 k9 f0 f1 f2 f3 f4 f5 f6 f7
  have kz_1_18 := fdq_200 hD hth r1
  have kz_1_20 := fdq_201 hD hth r1
  have kz_5_0 := fdq_21 hD hth r5
  have kz_5_1 := fdq_30 hD hth r5
  have nf0 : fc_1 PRD (20, [1, 9], [50, 2, 0, 18, 20, 2, 7, 0, 3, 2, 0, 18, 1, 1, 0, 2, 1, 1, 2, 0, 20]) ws (vs) := ⟨nf_in hl rfl, sgq_800 (vc_Ho_drawLine_1_0 (v_iv (n_v vs 2)) (v_iv (n_v vs 3)) (v_iv (n_v vs 6)) (v_iv (n_v vs 9)) (w_ei ws (w_ar ws (n_v vs 1) 3)) (w_ei ws (w_ar ws (n_v vs 1) 4)) (w_ei ws (w_ar ws (n_v vs 1) 6)) (w_ei ws (w_ar ws (n_v vs 5) 7)) (w_ei ws (w_ar ws (n_v vs 5) 8)) (w_fi ws (n_v vs 1) 17) (w_fi ws (n_v vs 1) 19) (w_ei ws (w_ar ws (n_v vs 1) 2)) (w_ei ws (w_ar ws (n_v vs 1) 5)) (w_fi ws (n_v vs 5) 0) (w_fi ws (n_v vs 5) 1) (w_fi ws (n_v vs 1) 18) (w_fi ws (n_v vs 1) 20) k2 k3 k9 (shm_344 f0) (shm_1491 f4) (shm_386 f5) (shm_387 f6) (shm_722 f7) kz_1_18 kz_1_20 kz_5_0 kz_5_1)⟩
  refine ⟨(fun _ h => (by cases h)), [], trivial, ?_, (fun _ h => (by cases h))⟩
  rw [List.append_nil]
  exact List.forall_mem_cons.mpr ⟨⟨show (20 : Nat) < 100 from by decide, nf0⟩, (fun _ h => (by cases h))⟩
set_option maxHeartbeats 4000000 in
theorem vc_Ho_drawLine_2_0 (x2 : Int) (x6 : Int) (x9 : Int) (x13 : Int) (x14 : Int) (x_0o1 : Int → Int) (bends_0o1 : Int → Int) (bendX_0o1 : Int → Int) (tail_0o5 : Int → Int) (head_0o5 : Int → Int) (leastY_0o1 : Int) (mostY_0o1 : Int) (y_0o1 : Int → Int) (bendY_0o1 : Int → Int) (leastX_0o1 : Int) (mostX_0o1 : Int) (nodes_0o5 : Int) (edges_0o5 : Int) (k2 : 0 ≤ x2 ∧ x2 ≤ 47) (k13 : 2 ≤ x13 ∧ x13 ≤ 25) (k14 : (-40000000) ≤ x14 ∧ x14 ≤ 690000000) (f0 : PTX (x_0o1) (bends_0o1) (bendX_0o1) (tail_0o5) (head_0o5) (x2) (x13) (x14)) (f6 : MSX (leastX_0o1) (mostX_0o1) (nodes_0o5) (edges_0o5) (x_0o1) (bends_0o1) (bendX_0o1)) (f8 : GKE (nodes_0o5) (edges_0o5) (tail_0o5) (head_0o5)) (f9 : (0 ≤ x2) ∧ ((x2 + 1) ≤ edges_0o5)) (kz_1_17 : (-41000000) ≤ leastX_0o1 ∧ leastX_0o1 ≤ 690000000) (kz_1_19 : (-40000000) ≤ mostX_0o1 ∧ mostX_0o1 ≤ 1001000000) (kz_5_0 : 0 ≤ nodes_0o5 ∧ nodes_0o5 ≤ 24) (kz_5_1 : 0 ≤ edges_0o5 ∧ edges_0o5 ≤ 48) : (leastX_0o1 ≤ x14) ∧ (x14 ≤ mostX_0o1) := by
  first
    | omega
    | assumption
    | (have h := ptx_in (an := x6) (show MSX leastX_0o1 mostX_0o1 nodes_0o5 edges_0o5 x_0o1 bends_0o1 bendX_0o1 by assumption) ‹GKE _ _ _ _› (show PTX x_0o1 bends_0o1 bendX_0o1 tail_0o5 head_0o5 _ _ x6 by assumption) (by omega) (by omega) (by omega)
       omega)
    | (have h := ptx_in (an := x14) (show MSX leastX_0o1 mostX_0o1 nodes_0o5 edges_0o5 x_0o1 bends_0o1 bendX_0o1 by assumption) ‹GKE _ _ _ _› (show PTX x_0o1 bends_0o1 bendX_0o1 tail_0o5 head_0o5 _ _ x14 by assumption) (by omega) (by omega) (by omega)
       omega)
    | (have h := ptx_in (an := x9) (show MSX leastY_0o1 mostY_0o1 nodes_0o5 edges_0o5 y_0o1 bends_0o1 bendY_0o1 by assumption) ‹GKE _ _ _ _› (show PTX y_0o1 bends_0o1 bendY_0o1 tail_0o5 head_0o5 _ _ x9 by assumption) (by omega) (by omega) (by omega)
       omega)
    | (have h := ptx_in (an := x18) (show MSX leastY_0o1 mostY_0o1 nodes_0o5 edges_0o5 y_0o1 bends_0o1 bendY_0o1 by assumption) ‹GKE _ _ _ _› (show PTX y_0o1 bends_0o1 bendY_0o1 tail_0o5 head_0o5 _ _ x18 by assumption) (by omega) (by omega) (by omega)
       omega)
  
def o_Ho_drawLine_2 : or_T := (45, 15, [(1, (2, 0, 0, [0])), (2, (0, 0, 47, [])), (3, (0, 1, 24, [])), (5, (2, 0, 0, [3])), (6, (0, -40000000, 690000000, [])), (9, (0, -40000000, 690000000, [])), (12, (0, 1, 1, [])), (13, (0, 2, 25, [])), (14, (0, -40000000, 690000000, []))], [(20, [1, 5, 2, 13, 14], [60, 0, 5, 933, 2, 4, 5, 1007, 1008]), (1, [13, 3, 12], []), (20, [1, 9], [50, 2, 0, 18, 20, 2, 7, 0, 3, 2, 0, 18, 1, 1, 0, 2, 1, 1, 2, 0, 20]), (20, [1, 5, 2, 3, 9], [60, 0, 5, 940, 3, 4, 6, 1007, 1008]), (20, [1, 6], [50, 2, 0, 17, 19, 2, 7, 0, 3, 2, 0, 17, 1, 1, 0, 2, 1, 1, 2, 0, 19]), (20, [1, 5, 2, 3, 6], [60, 0, 5, 933, 2, 4, 5, 1007, 1008]), (20, [1, 5], [60, 4, 3, 932, 17, 19, 1000, 1001, 2, 4, 5]), (20, [1, 5], [60, 4, 3, 939, 18, 20, 1000, 1001, 3, 4, 6]), (20, [5], [60, 2, 2, 596, 0, 1, 7, 8]), (20, [2, 5], [50, 1, 0, 1001, 2, 6, 0, 2, 0, 0, 1, 0, 0, 6, 4, 2, 1, 0, 0, 1, 2, 1, 1]), (20, [3], [50, 0, 0, 0, 2, 0, 0, 1, 0])], [], [], [(20, [1, 14], [50, 2, 0, 17, 19, 2, 7, 0, 3, 2, 0, 17, 1, 1, 0, 2, 1, 1, 2, 0, 19])], [], [(13, 3, 1, 1)])
theorem oo_Ho_drawLine_2 {kA : Nat → ClassId} : or_ok PRD kA GG o_Ho_drawLine_2 := by
  refine or_mk fun A ta ws vs hD hth hl => ?_
  intro t1 r1 t2 k2 t3 k3 t5 r5 t6 k6 t9 k9 t12 k12 t13 k13 t14 k14 d0 f0 f1 f2 f3 f4 f5 f6 f7 f8 f9 f10
  have kz_1_17 := fdq_198 hD hth r1
  have kz_1_19 := fdq_199 hD hth r1
  have kz_5_0 := fdq_21 hD hth r5
  have kz_5_1 := fdq_30 hD hth r5
  have nf0 : fc_1 PRD (20, [1, 14], [50, 2, 0, 17, 19, 2, 7, 0, 3, 2, 0, 17, 1, 1, 0, 2, 1, 1, 2, 0, 19]) ws (vs) := ⟨nf_in hl rfl, sgq_798 (vc_Ho_drawLine_2_0 (v_iv (n_v vs 2)) (v_iv (n_v vs 6)) (v_iv (n_v vs 9)) (v_iv (n_v vs 13)) (v_iv (n_v vs 14)) (w_ei ws (w_ar ws (n_v vs 1) 2)) (w_ei ws (w_ar ws (n_v vs 1) 4)) (w_ei ws (w_ar ws (n_v vs 1) 5)) (w_ei ws (w_ar ws (n_v vs 5) 7)) (w_ei ws (w_ar ws (n_v vs 5) 8)) (w_fi ws (n_v vs 1) 18) (w_fi ws (n_v vs 1) 20) (w_ei ws (w_ar ws (n_v vs 1) 3)) (w_ei ws (w_ar ws (n_v vs 1) 6)) (w_fi ws (n_v vs 1) 17) (w_fi ws (n_v vs 1) 19) (w_fi ws (n_v vs 5) 0) (w_fi ws (n_v vs 5) 1) k2 k13 k14 (shm_343 f0) (shm_1490 f6) (shm_386 f8) (shm_387 f9) kz_1_17 kz_1_19 kz_5_0 kz_5_1)⟩
  refine ⟨(fun _ h => (by cases h)), [], trivial, ?_, (fun _ h => (by cases h))⟩
  rw [List.append_nil]
  exact List.forall_mem_cons.mpr ⟨⟨show (20 : Nat) < 100 from by decide, nf0⟩, (fun _ h => (by cases h))⟩
set_option maxHeartbeats 4000000 in
theorem vc_Ho_drawLine_3_0 (x2 : Int) (x3 : Int) (x6 : Int) (x9 : Int) (x13 : Int) (x14 : Int) (x17 : Int) (x18 : Int) (y_0o1 : Int → Int) (bends_0o1 : Int → Int) (bendY_0o1 : Int → Int) (tail_0o5 : Int → Int) (head_0o5 : Int → Int) (leastX_0o1 : Int) (mostX_0o1 : Int) (x_0o1 : Int → Int) (bendX_0o1 : Int → Int) (leastY_0o1 : Int) (mostY_0o1 : Int) (nodes_0o5 : Int) (edges_0o5 : Int) (k2 : 0 ≤ x2 ∧ x2 ≤ 47) (k3 : 1 ≤ x3 ∧ x3 ≤ 24) (k13 : 2 ≤ x13 ∧ x13 ≤ 25) (k17 : 2 ≤ x17 ∧ x17 ≤ 25) (k18 : (-40000000) ≤ x18 ∧ x18 ≤ 690000000) (d0 : x3 + 1 ≤ x17 ∧ x17 ≤ x3 + 1) (d1 : x3 + 1 ≤ x13 ∧ x13 ≤ x3 + 1) (f0 : PTY (y_0o1) (bends_0o1) (bendY_0o1) (tail_0o5) (head_0o5) (x2) (x17) (x18)) (f10 : MSY (leastY_0o1) (mostY_0o1) (nodes_0o5) (edges_0o5) (y_0o1) (bends_0o1) (bendY_0o1)) (f11 : GKE (nodes_0o5) (edges_0o5) (tail_0o5) (head_0o5)) (f12 : (0 ≤ x2) ∧ ((x2 + 1) ≤ edges_0o5)) (kz_1_18 : (-41000000) ≤ leastY_0o1 ∧ leastY_0o1 ≤ 690000000) (kz_1_20 : (-40000000) ≤ mostY_0o1 ∧ mostY_0o1 ≤ 1001000000) (kz_5_0 : 0 ≤ nodes_0o5 ∧ nodes_0o5 ≤ 24) (kz_5_1 : 0 ≤ edges_0o5 ∧ edges_0o5 ≤ 48) : (leastY_0o1 ≤ x18) ∧ (x18 ≤ mostY_0o1) := by
  first
    | omega
    | assumption
    | (have h := ptx_in (an := x6) (show MSX leastX_0o1 mostX_0o1 nodes_0o5 edges_0o5 x_0o1 bends_0o1 bendX_0o1 by assumption) ‹GKE _ _ _ _› (show PTX x_0o1 bends_0o1 bendX_0o1 tail_0o5 head_0o5 _ _ x6 by assumption) (by omega) (by omega) (by omega)
       omega)
    | (have h := ptx_in (an := x14) (show MSX leastX_0o1 mostX_0o1 nodes_0o5 edges_0o5 x_0o1 bends_0o1 bendX_0o1 by assumption) ‹GKE _ _ _ _› (show PTX x_0o1 bends_0o1 bendX_0o1 tail_0o5 head_0o5 _ _ x14 by assumption) (by omega) (by omega) (by omega)
       omega)
    | (have h := ptx_in (an := x9) (show MSX leastY_0o1 mostY_0o1 nodes_0o5 edges_0o5 y_0o1 bends_0o1 bendY_0o1 by assumption) ‹GKE _ _ _ _› (show PTX y_0o1 bends_0o1 bendY_0o1 tail_0o5 head_0o5 _ _ x9 by assumption) (by omega) (by omega) (by omega)
       omega)
    | (have h := ptx_in (an := x18) (show MSX leastY_0o1 mostY_0o1 nodes_0o5 edges_0o5 y_0o1 bends_0o1 bendY_0o1 by assumption) ‹GKE _ _ _ _› (show PTX y_0o1 bends_0o1 bendY_0o1 tail_0o5 head_0o5 _ _ x18 by assumption) (by omega) (by omega) (by omega)
       omega)
  
def o_Ho_drawLine_3 : or_T := (63, 19, [(1, (2, 0, 0, [0])), (2, (0, 0, 47, [])), (3, (0, 1, 24, [])), (5, (2, 0, 0, [3])), (6, (0, -40000000, 690000000, [])), (9, (0, -40000000, 690000000, [])), (12, (0, 1, 1, [])), (13, (0, 2, 25, [])), (14, (0, -40000000, 690000000, [])), (16, (0, 1, 1, [])), (17, (0, 2, 25, [])), (18, (0, -40000000, 690000000, []))], [(20, [1, 5, 2, 17, 18], [60, 0, 5, 940, 3, 4, 6, 1007, 1008]), (1, [17, 3, 16], []), (20, [1, 14], [50, 2, 0, 17, 19, 2, 7, 0, 3, 2, 0, 17, 1, 1, 0, 2, 1, 1, 2, 0, 19]), (20, [1, 5, 2, 13, 14], [60, 0, 5, 933, 2, 4, 5, 1007, 1008]), (1, [13, 3, 12], []), (20, [1, 9], [50, 2, 0, 18, 20, 2, 7, 0, 3, 2, 0, 18, 1, 1, 0, 2, 1, 1, 2, 0, 20]), (20, [1, 5, 2, 3, 9], [60, 0, 5, 940, 3, 4, 6, 1007, 1008]), (20, [1, 6], [50, 2, 0, 17, 19, 2, 7, 0, 3, 2, 0, 17, 1, 1, 0, 2, 1, 1, 2, 0, 19]), (20, [1, 5, 2, 3, 6], [60, 0, 5, 933, 2, 4, 5, 1007, 1008]), (20, [1, 5], [60, 4, 3, 932, 17, 19, 1000, 1001, 2, 4, 5]), (20, [1, 5], [60, 4, 3, 939, 18, 20, 1000, 1001, 3, 4, 6]), (20, [5], [60, 2, 2, 596, 0, 1, 7, 8]), (20, [2, 5], [50, 1, 0, 1001, 2, 6, 0, 2, 0, 0, 1, 0, 0, 6, 4, 2, 1, 0, 0, 1, 2, 1, 1]), (20, [3], [50, 0, 0, 0, 2, 0, 0, 1, 0])], [], [], [(20, [1, 18], [50, 2, 0, 18, 20, 2, 7, 0, 3, 2, 0, 18, 1, 1, 0, 2, 1, 1, 2, 0, 20])], [], [(17, 3, 1, 1), (13, 3, 1, 1)])
theorem oo_Ho_drawLine_3 {kA : Nat → ClassId} : or_ok PRD kA GG o_Ho_drawLine_3 := by
  refine or_mk fun A ta ws vs hD hth hl => ?_
  intro t1 r1 t2 k2 t3 k3 t5 r5 t6 k6 t9 k9 t12 k12 t13 k13 t14 k14 t16 k16 t17 k17 t18 k18 d0 d1 f0 f1 f2 f3 f4 f5 f6 f7 f8 f9 f10 f11 f12 f13
  have kz_1_18 := fdq_200 hD hth r1
  have kz_1_20 := fdq_201 hD hth r1
  have kz_5_0 := fdq_21 hD hth r5
  have kz_5_1 := fdq_30 hD hth r5
  have nf0 : fc_1 PRD (20, [1, 18], [50, 2, 0, 18, 20, 2, 7, 0, 3, 2, 0, 18, 1, 1, 0, 2, 1, 1, 2, 0, 20]) ws (vs) := ⟨nf_in hl rfl, sgq_800 (vc_Ho_drawLine_3_0 (v_iv (n_v vs 2)) (v_iv (n_v vs 3)) (v_iv (n_v vs 6)) (v_iv (n_v vs 9)) (v_iv (n_v vs 13)) (v_iv (n_v vs 14)) (v_iv (n_v vs 17)) (v_iv (n_v vs 18)) (w_ei ws (w_ar ws (n_v vs 1) 3)) (w_ei ws (w_ar ws (n_v vs 1) 4)) (w_ei ws (w_ar ws (n_v vs 1) 6)) (w_ei ws (w_ar ws (n_v vs 5) 7)) (w_ei ws (w_ar ws (n_v vs 5) 8)) (w_fi ws (n_v vs 1) 17) (w_fi ws (n_v vs 1) 19) (w_ei ws (w_ar ws (n_v vs 1) 2)) (w_ei ws (w_ar ws (n_v vs 1) 5)) (w_fi ws (n_v vs 1) 18) (w_fi ws (n_v vs 1) 20) (w_fi ws (n_v vs 5) 0) (w_fi ws (n_v vs 5) 1) k2 k3 k13 k17 k18 d0 d1 (shm_344 f0) (shm_1491 f10) (shm_386 f11) (shm_387 f12) kz_1_18 kz_1_20 kz_5_0 kz_5_1)⟩
  refine ⟨(fun _ h => (by cases h)), [], trivial, ?_, (fun _ h => (by cases h))⟩
  rw [List.append_nil]
  exact List.forall_mem_cons.mpr ⟨⟨show (20 : Nat) < 100 from by decide, nf0⟩, (fun _ h => (by cases h))⟩
set_option maxHeartbeats 4000000 in
theorem vc_Ho_drawLine_4_0 (x2 : Int) (x3 : Int) (x6 : Int) (x9 : Int) (x14 : Int) (x17 : Int) (x18 : Int) (y_0o1 : Int → Int) (bends_0o1 : Int → Int) (bendY_0o1 : Int → Int) (tail_0o5 : Int → Int) (head_0o5 : Int → Int) (leastX_0o1 : Int) (mostX_0o1 : Int) (x_0o1 : Int → Int) (bendX_0o1 : Int → Int) (leastY_0o1 : Int) (mostY_0o1 : Int) (nodes_0o5 : Int) (edges_0o5 : Int) (k2 : 0 ≤ x2 ∧ x2 ≤ 47) (k3 : 1 ≤ x3 ∧ x3 ≤ 23) (k17 : 2 ≤ x17 ∧ x17 ≤ 24) (k18 : (-41000000) ≤ x18 ∧ x18 ≤ 1001000000) (d0 : x3 + 1 ≤ x17 ∧ x17 ≤ x3 + 1) (f0 : PTY (y_0o1) (bends_0o1) (bendY_0o1) (tail_0o5) (head_0o5) (x2) (x17) (x18)) (f10 : MSY (leastY_0o1) (mostY_0o1) (nodes_0o5) (edges_0o5) (y_0o1) (bends_0o1) (bendY_0o1)) (f11 : GKE (nodes_0o5) (edges_0o5) (tail_0o5) (head_0o5)) (f12 : (0 ≤ x2) ∧ ((x2 + 1) ≤ edges_0o5)) (kz_1_18 : (-41000000) ≤ leastY_0o1 ∧ leastY_0o1 ≤ 690000000) (kz_1_20 : (-40000000) ≤ mostY_0o1 ∧ mostY_0o1 ≤ 1001000000) (kz_5_0 : 0 ≤ nodes_0o5 ∧ nodes_0o5 ≤ 24) (kz_5_1 : 0 ≤ edges_0o5 ∧ edges_0o5 ≤ 48) : (leastY_0o1 ≤ x18) ∧ (x18 ≤ mostY_0o1) := by
  first
    | omega
    | assumption
    | (have h := ptx_in (an := x6) (show MSX leastX_0o1 mostX_0o1 nodes_0o5 edges_0o5 x_0o1 bends_0o1 bendX_0o1 by assumption) ‹GKE _ _ _ _› (show PTX x_0o1 bends_0o1 bendX_0o1 tail_0o5 head_0o5 _ _ x6 by assumption) (by omega) (by omega) (by omega)
       omega)
    | (have h := ptx_in (an := x14) (show MSX leastX_0o1 mostX_0o1 nodes_0o5 edges_0o5 x_0o1 bends_0o1 bendX_0o1 by assumption) ‹GKE _ _ _ _› (show PTX x_0o1 bends_0o1 bendX_0o1 tail_0o5 head_0o5 _ _ x14 by assumption) (by omega) (by omega) (by omega)
       omega)
    | (have h := ptx_in (an := x9) (show MSX leastY_0o1 mostY_0o1 nodes_0o5 edges_0o5 y_0o1 bends_0o1 bendY_0o1 by assumption) ‹GKE _ _ _ _› (show PTX y_0o1 bends_0o1 bendY_0o1 tail_0o5 head_0o5 _ _ x9 by assumption) (by omega) (by omega) (by omega)
       omega)
    | (have h := ptx_in (an := x18) (show MSX leastY_0o1 mostY_0o1 nodes_0o5 edges_0o5 y_0o1 bends_0o1 bendY_0o1 by assumption) ‹GKE _ _ _ _› (show PTX y_0o1 bends_0o1 bendY_0o1 tail_0o5 head_0o5 _ _ x18 by assumption) (by omega) (by omega) (by omega)
       omega)
  
def o_Ho_drawLine_4 : or_T := (63, 19, [(1, (2, 0, 0, [0])), (2, (0, 0, 47, [])), (3, (0, 1, 23, [])), (5, (2, 0, 0, [3])), (6, (0, -40000000, 690000000, [])), (9, (0, -40000000, 690000000, [])), (12, (0, 1, 1, [])), (13, (0, 2, 25, [])), (14, (0, -40000000, 690000000, [])), (16, (0, 1, 1, [])), (17, (0, 2, 24, [])), (18, (0, -41000000, 1001000000, []))], [(20, [1, 5, 2, 17, 18], [60, 0, 5, 940, 3, 4, 6, 1007, 1008]), (1, [17, 3, 16], []), (20, [1, 14], [50, 2, 0, 17, 19, 2, 7, 0, 3, 2, 0, 17, 1, 1, 0, 2, 1, 1, 2, 0, 19]), (20, [1, 5, 2, 13, 14], [60, 0, 5, 933, 2, 4, 5, 1007, 1008]), (1, [13, 3, 12], []), (20, [1, 9], [50, 2, 0, 18, 20, 2, 7, 0, 3, 2, 0, 18, 1, 1, 0, 2, 1, 1, 2, 0, 20]), (20, [1, 5, 2, 3, 9], [60, 0, 5, 940, 3, 4, 6, 1007, 1008]), (20, [1, 6], [50, 2, 0, 17, 19, 2, 7, 0, 3, 2, 0, 17, 1, 1, 0, 2, 1, 1, 2, 0, 19]), (20, [1, 5, 2, 3, 6], [60, 0, 5, 933, 2, 4, 5, 1007, 1008]), (20, [1, 5], [60, 4, 3, 932, 17, 19, 1000, 1001, 2, 4, 5]), (20, [1, 5], [60, 4, 3, 939, 18, 20, 1000, 1001, 3, 4, 6]), (20, [5], [60, 2, 2, 596, 0, 1, 7, 8]), (20, [2, 5], [50, 1, 0, 1001, 2, 6, 0, 2, 0, 0, 1, 0, 0, 6, 4, 2, 1, 0, 0, 1, 2, 1, 1]), (20, [3], [50, 0, 0, 0, 2, 0, 0, 1, 0])], [], [], [(20, [1, 18], [50, 2, 0, 18, 20, 2, 7, 0, 3, 2, 0, 18, 1, 1, 0, 2, 1, 1, 2, 0, 20])], [], [(17, 3, 1, 1), (13, 3, 1, 1)])
theorem oo_Ho_drawLine_4 {kA : Nat → ClassId} : or_ok PRD kA GG o_Ho_drawLine_4 := by
  refine or_mk fun A ta ws vs hD hth hl => ?_
  intro t1 r1 t2 k2 t3 k3 t5 r5 t6 k6 t9 k9 t12 k12 t13 k13 t14 k14 t16 k16 t17 k17 t18 k18 d0 d1 f0 f1 f2 f3 f4 f5 f6 f7 f8 f9 f10 f11 f12 f13
  have kz_1_18 := fdq_200 hD hth r1
  have kz_1_20 := fdq_201 hD hth r1
  have kz_5_0 := fdq_21 hD hth r5
  have kz_5_1 := fdq_30 hD hth r5
  have nf0 : fc_1 PRD (20, [1, 18], [50, 2, 0, 18, 20, 2, 7, 0, 3, 2, 0, 18, 1, 1, 0, 2, 1, 1, 2, 0, 20]) ws (vs) := ⟨nf_in hl rfl, sgq_800 (vc_Ho_drawLine_4_0 (v_iv (n_v vs 2)) (v_iv (n_v vs 3)) (v_iv (n_v vs 6)) (v_iv (n_v vs 9)) (v_iv (n_v vs 14)) (v_iv (n_v vs 17)) (v_iv (n_v vs 18)) (w_ei ws (w_ar ws (n_v vs 1) 3)) (w_ei ws (w_ar ws (n_v vs 1) 4)) (w_ei ws (w_ar ws (n_v vs 1) 6)) (w_ei ws (w_ar ws (n_v vs 5) 7)) (w_ei ws (w_ar ws (n_v vs 5) 8)) (w_fi ws (n_v vs 1) 17) (w_fi ws (n_v vs 1) 19) (w_ei ws (w_ar ws (n_v vs 1) 2)) (w_ei ws (w_ar ws (n_v vs 1) 5)) (w_fi ws (n_v vs 1) 18) (w_fi ws (n_v vs 1) 20) (w_fi ws (n_v vs 5) 0) (w_fi ws (n_v vs 5) 1) k2 k3 k17 k18 d0 (shm_344 f0) (shm_1491 f10) (shm_386 f11) (shm_387 f12) kz_1_18 kz_1_20 kz_5_0 kz_5_1)⟩
  refine ⟨(fun _ h => (by cases h)), [], trivial, ?_, (fun _ h => (by cases h))⟩
  rw [List.append_nil]
  exact List.forall_mem_cons.mpr ⟨⟨show (20 : Nat) < 100 from by decide, nf0⟩, (fun _ h => (by cases h))⟩
set_option maxHeartbeats 4000000 in
theorem vc_Ho_drawLine_5_0 (x2 : Int) (x6 : Int) (x9 : Int) (x13 : Int) (x14 : Int) (x_0o1 : Int → Int) (bends_0o1 : Int → Int) (bendX_0o1 : Int → Int) (tail_0o5 : Int → Int) (head_0o5 : Int → Int) (leastY_0o1 : Int) (mostY_0o1 : Int) (y_0o1 : Int → Int) (bendY_0o1 : Int → Int) (leastX_0o1 : Int) (mostX_0o1 : Int) (nodes_0o5 : Int) (edges_0o5 : Int) (k2 : 0 ≤ x2 ∧ x2 ≤ 47) (k13 : 2 ≤ x13 ∧ x13 ≤ 24) (k14 : (-41000000) ≤ x14 ∧ x14 ≤ 1001000000) (f0 : PTX (x_0o1) (bends_0o1) (bendX_0o1) (tail_0o5) (head_0o5) (x2) (x13) (x14)) (f6 : MSX (leastX_0o1) (mostX_0o1) (nodes_0o5) (edges_0o5) (x_0o1) (bends_0o1) (bendX_0o1)) (f8 : GKE (nodes_0o5) (edges_0o5) (tail_0o5) (head_0o5)) (f9 : (0 ≤ x2) ∧ ((x2 + 1) ≤ edges_0o5)) (kz_1_17 : (-41000000) ≤ leastX_0o1 ∧ leastX_0o1 ≤ 690000000) (kz_1_19 : (-40000000) ≤ mostX_0o1 ∧ mostX_0o1 ≤ 1001000000) (kz_5_0 : 0 ≤ nodes_0o5 ∧ nodes_0o5 ≤ 24) (kz_5_1 : 0 ≤ edges_0o5 ∧ edges_0o5 ≤ 48) : (leastX_0o1 ≤ x14) ∧ (x14 ≤ mostX_0o1) := by
  first
    | omega
    | assumption
    | (have h := ptx_in (an := x6) (show MSX leastX_0o1 mostX_0o1 nodes_0o5 edges_0o5 x_0o1 bends_0o1 bendX_0o1 by assumption) ‹GKE _ _ _ _› (show PTX x_0o1 bends_0o1 bendX_0o1 tail_0o5 head_0o5 _ _ x6 by assumption) (by omega) (by omega) (by omega)
       omega)
    | (have h := ptx_in (an := x14) (show MSX leastX_0o1 mostX_0o1 nodes_0o5 edges_0o5 x_0o1 bends_0o1 bendX_0o1 by assumption) ‹GKE _ _ _ _› (show PTX x_0o1 bends_0o1 bendX_0o1 tail_0o5 head_0o5 _ _ x14 by assumption) (by omega) (by omega) (by omega)
       omega)
    | (have h := ptx_in (an := x9) (show MSX leastY_0o1 mostY_0o1 nodes_0o5 edges_0o5 y_0o1 bends_0o1 bendY_0o1 by assumption) ‹GKE _ _ _ _› (show PTX y_0o1 bends_0o1 bendY_0o1 tail_0o5 head_0o5 _ _ x9 by assumption) (by omega) (by omega) (by omega)
       omega)
    | (have h := ptx_in (an := x18) (show MSX leastY_0o1 mostY_0o1 nodes_0o5 edges_0o5 y_0o1 bends_0o1 bendY_0o1 by assumption) ‹GKE _ _ _ _› (show PTX y_0o1 bends_0o1 bendY_0o1 tail_0o5 head_0o5 _ _ x18 by assumption) (by omega) (by omega) (by omega)
       omega)
  
def o_Ho_drawLine_5 : or_T := (45, 15, [(1, (2, 0, 0, [0])), (2, (0, 0, 47, [])), (3, (0, 1, 23, [])), (5, (2, 0, 0, [3])), (6, (0, -40000000, 690000000, [])), (9, (0, -40000000, 690000000, [])), (12, (0, 1, 1, [])), (13, (0, 2, 24, [])), (14, (0, -41000000, 1001000000, []))], [(20, [1, 5, 2, 13, 14], [60, 0, 5, 933, 2, 4, 5, 1007, 1008]), (1, [13, 3, 12], []), (20, [1, 9], [50, 2, 0, 18, 20, 2, 7, 0, 3, 2, 0, 18, 1, 1, 0, 2, 1, 1, 2, 0, 20]), (20, [1, 5, 2, 3, 9], [60, 0, 5, 940, 3, 4, 6, 1007, 1008]), (20, [1, 6], [50, 2, 0, 17, 19, 2, 7, 0, 3, 2, 0, 17, 1, 1, 0, 2, 1, 1, 2, 0, 19]), (20, [1, 5, 2, 3, 6], [60, 0, 5, 933, 2, 4, 5, 1007, 1008]), (20, [1, 5], [60, 4, 3, 932, 17, 19, 1000, 1001, 2, 4, 5]), (20, [1, 5], [60, 4, 3, 939, 18, 20, 1000, 1001, 3, 4, 6]), (20, [5], [60, 2, 2, 596, 0, 1, 7, 8]), (20, [2, 5], [50, 1, 0, 1001, 2, 6, 0, 2, 0, 0, 1, 0, 0, 6, 4, 2, 1, 0, 0, 1, 2, 1, 1]), (20, [3], [50, 0, 0, 0, 2, 0, 0, 1, 0])], [], [], [(20, [1, 14], [50, 2, 0, 17, 19, 2, 7, 0, 3, 2, 0, 17, 1, 1, 0, 2, 1, 1, 2, 0, 19])], [], [(13, 3, 1, 1)])
theorem oo_Ho_drawLine_5 {kA : Nat → ClassId} : or_ok PRD kA GG o_Ho_drawLine_5 := by
  refine or_mk fun A ta ws vs hD hth hl => ?_
  intro t1 r1 t2 k2 t3 k3 t5 r5 t6 k6 t9 k9 t12 k12 t13 k13 t14 k14 d0 f0 f1 f2 f3 f4 f5 f6 f7 f8 f9 f10
  have kz_1_17 := fdq_198 hD hth r1
  have kz_1_19 := fdq_199 hD hth r1
  have kz_5_0 := fdq_21 hD hth r5
  have kz_5_1 := fdq_30 hD hth r5
  have nf0 : fc_1 PRD (20, [1, 14], [50, 2, 0, 17, 19, 2, 7, 0, 3, 2, 0, 17, 1, 1, 0, 2, 1, 1, 2, 0, 19]) ws (vs) := ⟨nf_in hl rfl, sgq_798 (vc_Ho_drawLine_5_0 (v_iv (n_v vs 2)) (v_iv (n_v vs 6)) (v_iv (n_v vs 9)) (v_iv (n_v vs 13)) (v_iv (n_v vs 14)) (w_ei ws (w_ar ws (n_v vs 1) 2)) (w_ei ws (w_ar ws (n_v vs 1) 4)) (w_ei ws (w_ar ws (n_v vs 1) 5)) (w_ei ws (w_ar ws (n_v vs 5) 7)) (w_ei ws (w_ar ws (n_v vs 5) 8)) (w_fi ws (n_v vs 1) 18) (w_fi ws (n_v vs 1) 20) (w_ei ws (w_ar ws (n_v vs 1) 3)) (w_ei ws (w_ar ws (n_v vs 1) 6)) (w_fi ws (n_v vs 1) 17) (w_fi ws (n_v vs 1) 19) (w_fi ws (n_v vs 5) 0) (w_fi ws (n_v vs 5) 1) k2 k13 k14 (shm_343 f0) (shm_1490 f6) (shm_386 f8) (shm_387 f9) kz_1_17 kz_1_19 kz_5_0 kz_5_1)⟩
  refine ⟨(fun _ h => (by cases h)), [], trivial, ?_, (fun _ h => (by cases h))⟩
  rw [List.append_nil]
  exact List.forall_mem_cons.mpr ⟨⟨show (20 : Nat) < 100 from by decide, nf0⟩, (fun _ h => (by cases h))⟩
set_option maxHeartbeats 4000000 in
theorem vc_Ho_drawLine_6_0 (x2 : Int) (x3 : Int) (x6 : Int) (x9 : Int) (x13 : Int) (x14 : Int) (x17 : Int) (x18 : Int) (y_0o1 : Int → Int) (bends_0o1 : Int → Int) (bendY_0o1 : Int → Int) (tail_0o5 : Int → Int) (head_0o5 : Int → Int) (leastX_0o1 : Int) (mostX_0o1 : Int) (x_0o1 : Int → Int) (bendX_0o1 : Int → Int) (leastY_0o1 : Int) (mostY_0o1 : Int) (nodes_0o5 : Int) (edges_0o5 : Int) (k2 : 0 ≤ x2 ∧ x2 ≤ 47) (k3 : 1 ≤ x3 ∧ x3 ≤ 23) (k13 : 2 ≤ x13 ∧ x13 ≤ 24) (k17 : 2 ≤ x17 ∧ x17 ≤ 24) (k18 : (-40000000) ≤ x18 ∧ x18 ≤ 690000000) (d0 : x3 + 1 ≤ x17 ∧ x17 ≤ x3 + 1) (d1 : x3 + 1 ≤ x13 ∧ x13 ≤ x3 + 1) (f0 : PTY (y_0o1) (bends_0o1) (bendY_0o1) (tail_0o5) (head_0o5) (x2) (x17) (x18)) (f10 : MSY (leastY_0o1) (mostY_0o1) (nodes_0o5) (edges_0o5) (y_0o1) (bends_0o1) (bendY_0o1)) (f11 : GKE (nodes_0o5) (edges_0o5) (tail_0o5) (head_0o5)) (f12 : (0 ≤ x2) ∧ ((x2 + 1) ≤ edges_0o5)) (kz_1_18 : (-41000000) ≤ leastY_0o1 ∧ leastY_0o1 ≤ 690000000) (kz_1_20 : (-40000000) ≤ mostY_0o1 ∧ mostY_0o1 ≤ 1001000000) (kz_5_0 : 0 ≤ nodes_0o5 ∧ nodes_0o5 ≤ 24) (kz_5_1 : 0 ≤ edges_0o5 ∧ edges_0o5 ≤ 48) : (leastY_0o1 ≤ x18) ∧ (x18 ≤ mostY_0o1) := by
  first
    | omega
    | assumption
    | (have h := ptx_in (an := x6) (show MSX leastX_0o1 mostX_0o1 nodes_0o5 edges_0o5 x_0o1 bends_0o1 bendX_0o1 by assumption) ‹GKE _ _ _ _› (show PTX x_0o1 bends_0o1 bendX_0o1 tail_0o5 head_0o5 _ _ x6 by assumption) (by omega) (by omega) (by omega)
       omega)
    | (have h := ptx_in (an := x14) (show MSX leastX_0o1 mostX_0o1 nodes_0o5 edges_0o5 x_0o1 bends_0o1 bendX_0o1 by assumption) ‹GKE _ _ _ _› (show PTX x_0o1 bends_0o1 bendX_0o1 tail_0o5 head_0o5 _ _ x14 by assumption) (by omega) (by omega) (by omega)
       omega)
    | (have h := ptx_in (an := x9) (show MSX leastY_0o1 mostY_0o1 nodes_0o5 edges_0o5 y_0o1 bends_0o1 bendY_0o1 by assumption) ‹GKE _ _ _ _› (show PTX y_0o1 bends_0o1 bendY_0o1 tail_0o5 head_0o5 _ _ x9 by assumption) (by omega) (by omega) (by omega)
       omega)
    | (have h := ptx_in (an := x18) (show MSX leastY_0o1 mostY_0o1 nodes_0o5 edges_0o5 y_0o1 bends_0o1 bendY_0o1 by assumption) ‹GKE _ _ _ _› (show PTX y_0o1 bends_0o1 bendY_0o1 tail_0o5 head_0o5 _ _ x18 by assumption) (by omega) (by omega) (by omega)
       omega)
  
def o_Ho_drawLine_6 : or_T := (63, 19, [(1, (2, 0, 0, [0])), (2, (0, 0, 47, [])), (3, (0, 1, 23, [])), (5, (2, 0, 0, [3])), (6, (0, -40000000, 690000000, [])), (9, (0, -40000000, 690000000, [])), (12, (0, 1, 1, [])), (13, (0, 2, 24, [])), (14, (0, -41000000, 1001000000, [])), (16, (0, 1, 1, [])), (17, (0, 2, 24, [])), (18, (0, -40000000, 690000000, []))], [(20, [1, 5, 2, 17, 18], [60, 0, 5, 940, 3, 4, 6, 1007, 1008]), (1, [17, 3, 16], []), (20, [1, 14], [50, 2, 0, 17, 19, 2, 7, 0, 3, 2, 0, 17, 1, 1, 0, 2, 1, 1, 2, 0, 19]), (20, [1, 5, 2, 13, 14], [60, 0, 5, 933, 2, 4, 5, 1007, 1008]), (1, [13, 3, 12], []), (20, [1, 9], [50, 2, 0, 18, 20, 2, 7, 0, 3, 2, 0, 18, 1, 1, 0, 2, 1, 1, 2, 0, 20]), (20, [1, 5, 2, 3, 9], [60, 0, 5, 940, 3, 4, 6, 1007, 1008]), (20, [1, 6], [50, 2, 0, 17, 19, 2, 7, 0, 3, 2, 0, 17, 1, 1, 0, 2, 1, 1, 2, 0, 19]), (20, [1, 5, 2, 3, 6], [60, 0, 5, 933, 2, 4, 5, 1007, 1008]), (20, [1, 5], [60, 4, 3, 932, 17, 19, 1000, 1001, 2, 4, 5]), (20, [1, 5], [60, 4, 3, 939, 18, 20, 1000, 1001, 3, 4, 6]), (20, [5], [60, 2, 2, 596, 0, 1, 7, 8]), (20, [2, 5], [50, 1, 0, 1001, 2, 6, 0, 2, 0, 0, 1, 0, 0, 6, 4, 2, 1, 0, 0, 1, 2, 1, 1]), (20, [3], [50, 0, 0, 0, 2, 0, 0, 1, 0])], [], [], [(20, [1, 18], [50, 2, 0, 18, 20, 2, 7, 0, 3, 2, 0, 18, 1, 1, 0, 2, 1, 1, 2, 0, 20])], [], [(17, 3, 1, 1), (13, 3, 1, 1)])
theorem oo_Ho_drawLine_6 {kA : Nat → ClassId} : or_ok PRD kA GG o_Ho_drawLine_6 := by
  refine or_mk fun A ta ws vs hD hth hl => ?_
  intro t1 r1 t2 k2 t3 k3 t5 r5 t6 k6 t9 k9 t12 k12 t13 k13 t14 k14 t16 k16 t17 k17 t18 k18 d0 d1 f0 f1 f2 f3 f4 f5 f6 f7 f8 f9 f10 f11 f12 f13
  have kz_1_18 := fdq_200 hD hth r1
  have kz_1_20 := fdq_201 hD hth r1
  have kz_5_0 := fdq_21 hD hth r5
  have kz_5_1 := fdq_30 hD hth r5
  have nf0 : fc_1 PRD (20, [1, 18], [50, 2, 0, 18, 20, 2, 7, 0, 3, 2, 0, 18, 1, 1, 0, 2, 1, 1, 2, 0, 20]) ws (vs) := ⟨nf_in hl rfl, sgq_800 (vc_Ho_drawLine_6_0 (v_iv (n_v vs 2)) (v_iv (n_v vs 3)) (v_iv (n_v vs 6)) (v_iv (n_v vs 9)) (v_iv (n_v vs 13)) (v_iv (n_v vs 14)) (v_iv (n_v vs 17)) (v_iv (n_v vs 18)) (w_ei ws (w_ar ws (n_v vs 1) 3)) (w_ei ws (w_ar ws (n_v vs 1) 4)) (w_ei ws (w_ar ws (n_v vs 1) 6)) (w_ei ws (w_ar ws (n_v vs 5) 7)) (w_ei ws (w_ar ws (n_v vs 5) 8)) (w_fi ws (n_v vs 1) 17) (w_fi ws (n_v vs 1) 19) (w_ei ws (w_ar ws (n_v vs 1) 2)) (w_ei ws (w_ar ws (n_v vs 1) 5)) (w_fi ws (n_v vs 1) 18) (w_fi ws (n_v vs 1) 20) (w_fi ws (n_v vs 5) 0) (w_fi ws (n_v vs 5) 1) k2 k3 k13 k17 k18 d0 d1 (shm_344 f0) (shm_1491 f10) (shm_386 f11) (shm_387 f12) kz_1_18 kz_1_20 kz_5_0 kz_5_1)⟩
  refine ⟨(fun _ h => (by cases h)), [], trivial, ?_, (fun _ h => (by cases h))⟩
  rw [List.append_nil]
  exact List.forall_mem_cons.mpr ⟨⟨show (20 : Nat) < 100 from by decide, nf0⟩, (fun _ h => (by cases h))⟩
set_option maxHeartbeats 4000000 in
theorem vc_Ho_drawLine_7_0 (x2 : Int) (x3 : Int) (x6 : Int) (x9 : Int) (x13 : Int) (x14 : Int) (x17 : Int) (x18 : Int) (y_0o1 : Int → Int) (bends_0o1 : Int → Int) (bendY_0o1 : Int → Int) (tail_0o5 : Int → Int) (head_0o5 : Int → Int) (leastX_0o1 : Int) (mostX_0o1 : Int) (x_0o1 : Int → Int) (bendX_0o1 : Int → Int) (leastY_0o1 : Int) (mostY_0o1 : Int) (nodes_0o5 : Int) (edges_0o5 : Int) (k2 : 0 ≤ x2 ∧ x2 ≤ 47) (k3 : 1 ≤ x3 ∧ x3 ≤ 23) (k13 : 2 ≤ x13 ∧ x13 ≤ 24) (k17 : 2 ≤ x17 ∧ x17 ≤ 24) (k18 : (-41000000) ≤ x18 ∧ x18 ≤ 1001000000) (d0 : x3 + 1 ≤ x17 ∧ x17 ≤ x3 + 1) (d1 : x3 + 1 ≤ x13 ∧ x13 ≤ x3 + 1) (f0 : PTY (y_0o1) (bends_0o1) (bendY_0o1) (tail_0o5) (head_0o5) (x2) (x17) (x18)) (f10 : MSY (leastY_0o1) (mostY_0o1) (nodes_0o5) (edges_0o5) (y_0o1) (bends_0o1) (bendY_0o1)) (f11 : GKE (nodes_0o5) (edges_0o5) (tail_0o5) (head_0o5)) (f12 : (0 ≤ x2) ∧ ((x2 + 1) ≤ edges_0o5)) (kz_1_18 : (-41000000) ≤ leastY_0o1 ∧ leastY_0o1 ≤ 690000000) (kz_1_20 : (-40000000) ≤ mostY_0o1 ∧ mostY_0o1 ≤ 1001000000) (kz_5_0 : 0 ≤ nodes_0o5 ∧ nodes_0o5 ≤ 24) (kz_5_1 : 0 ≤ edges_0o5 ∧ edges_0o5 ≤ 48) : (leastY_0o1 ≤ x18) ∧ (x18 ≤ mostY_0o1) := by
  first
    | omega
    | assumption
    | (have h := ptx_in (an := x6) (show MSX leastX_0o1 mostX_0o1 nodes_0o5 edges_0o5 x_0o1 bends_0o1 bendX_0o1 by assumption) ‹GKE _ _ _ _› (show PTX x_0o1 bends_0o1 bendX_0o1 tail_0o5 head_0o5 _ _ x6 by assumption) (by omega) (by omega) (by omega)
       omega)
    | (have h := ptx_in (an := x14) (show MSX leastX_0o1 mostX_0o1 nodes_0o5 edges_0o5 x_0o1 bends_0o1 bendX_0o1 by assumption) ‹GKE _ _ _ _› (show PTX x_0o1 bends_0o1 bendX_0o1 tail_0o5 head_0o5 _ _ x14 by assumption) (by omega) (by omega) (by omega)
       omega)
    | (have h := ptx_in (an := x9) (show MSX leastY_0o1 mostY_0o1 nodes_0o5 edges_0o5 y_0o1 bends_0o1 bendY_0o1 by assumption) ‹GKE _ _ _ _› (show PTX y_0o1 bends_0o1 bendY_0o1 tail_0o5 head_0o5 _ _ x9 by assumption) (by omega) (by omega) (by omega)
       omega)
    | (have h := ptx_in (an := x18) (show MSX leastY_0o1 mostY_0o1 nodes_0o5 edges_0o5 y_0o1 bends_0o1 bendY_0o1 by assumption) ‹GKE _ _ _ _› (show PTX y_0o1 bends_0o1 bendY_0o1 tail_0o5 head_0o5 _ _ x18 by assumption) (by omega) (by omega) (by omega)
       omega)
  
def o_Ho_drawLine_7 : or_T := (63, 19, [(1, (2, 0, 0, [0])), (2, (0, 0, 47, [])), (3, (0, 1, 23, [])), (5, (2, 0, 0, [3])), (6, (0, -40000000, 690000000, [])), (9, (0, -40000000, 690000000, [])), (12, (0, 1, 1, [])), (13, (0, 2, 24, [])), (14, (0, -41000000, 1001000000, [])), (16, (0, 1, 1, [])), (17, (0, 2, 24, [])), (18, (0, -41000000, 1001000000, []))], [(20, [1, 5, 2, 17, 18], [60, 0, 5, 940, 3, 4, 6, 1007, 1008]), (1, [17, 3, 16], []), (20, [1, 14], [50, 2, 0, 17, 19, 2, 7, 0, 3, 2, 0, 17, 1, 1, 0, 2, 1, 1, 2, 0, 19]), (20, [1, 5, 2, 13, 14], [60, 0, 5, 933, 2, 4, 5, 1007, 1008]), (1, [13, 3, 12], []), (20, [1, 9], [50, 2, 0, 18, 20, 2, 7, 0, 3, 2, 0, 18, 1, 1, 0, 2, 1, 1, 2, 0, 20]), (20, [1, 5, 2, 3, 9], [60, 0, 5, 940, 3, 4, 6, 1007, 1008]), (20, [1, 6], [50, 2, 0, 17, 19, 2, 7, 0, 3, 2, 0, 17, 1, 1, 0, 2, 1, 1, 2, 0, 19]), (20, [1, 5, 2, 3, 6], [60, 0, 5, 933, 2, 4, 5, 1007, 1008]), (20, [1, 5], [60, 4, 3, 932, 17, 19, 1000, 1001, 2, 4, 5]), (20, [1, 5], [60, 4, 3, 939, 18, 20, 1000, 1001, 3, 4, 6]), (20, [5], [60, 2, 2, 596, 0, 1, 7, 8]), (20, [2, 5], [50, 1, 0, 1001, 2, 6, 0, 2, 0, 0, 1, 0, 0, 6, 4, 2, 1, 0, 0, 1, 2, 1, 1]), (20, [3], [50, 0, 0, 0, 2, 0, 0, 1, 0])], [], [], [(20, [1, 18], [50, 2, 0, 18, 20, 2, 7, 0, 3, 2, 0, 18, 1, 1, 0, 2, 1, 1, 2, 0, 20])], [], [(17, 3, 1, 1), (13, 3, 1, 1)])
theorem oo_Ho_drawLine_7 {kA : Nat → ClassId} : or_ok PRD kA GG o_Ho_drawLine_7 := by
  refine or_mk fun A ta ws vs hD hth hl => ?_
  intro t1 r1 t2 k2 t3 k3 t5 r5 t6 k6 t9 k9 t12 k12 t13 k13 t14 k14 t16 k16 t17 k17 t18 k18 d0 d1 f0 f1 f2 f3 f4 f5 f6 f7 f8 f9 f10 f11 f12 f13
  have kz_1_18 := fdq_200 hD hth r1
  have kz_1_20 := fdq_201 hD hth r1
  have kz_5_0 := fdq_21 hD hth r5
  have kz_5_1 := fdq_30 hD hth r5
  have nf0 : fc_1 PRD (20, [1, 18], [50, 2, 0, 18, 20, 2, 7, 0, 3, 2, 0, 18, 1, 1, 0, 2, 1, 1, 2, 0, 20]) ws (vs) := ⟨nf_in hl rfl, sgq_800 (vc_Ho_drawLine_7_0 (v_iv (n_v vs 2)) (v_iv (n_v vs 3)) (v_iv (n_v vs 6)) (v_iv (n_v vs 9)) (v_iv (n_v vs 13)) (v_iv (n_v vs 14)) (v_iv (n_v vs 17)) (v_iv (n_v vs 18)) (w_ei ws (w_ar ws (n_v vs 1) 3)) (w_ei ws (w_ar ws (n_v vs 1) 4)) (w_ei ws (w_ar ws (n_v vs 1) 6)) (w_ei ws (w_ar ws (n_v vs 5) 7)) (w_ei ws (w_ar ws (n_v vs 5) 8)) (w_fi ws (n_v vs 1) 17) (w_fi ws (n_v vs 1) 19) (w_ei ws (w_ar ws (n_v vs 1) 2)) (w_ei ws (w_ar ws (n_v vs 1) 5)) (w_fi ws (n_v vs 1) 18) (w_fi ws (n_v vs 1) 20) (w_fi ws (n_v vs 5) 0) (w_fi ws (n_v vs 5) 1) k2 k3 k13 k17 k18 d0 d1 (shm_344 f0) (shm_1491 f10) (shm_386 f11) (shm_387 f12) kz_1_18 kz_1_20 kz_5_0 kz_5_1)⟩
  refine ⟨(fun _ h => (by cases h)), [], trivial, ?_, (fun _ h => (by cases h))⟩
  rw [List.append_nil]
  exact List.forall_mem_cons.mpr ⟨⟨show (20 : Nat) < 100 from by decide, nf0⟩, (fun _ h => (by cases h))⟩
set_option maxHeartbeats 4000000 in
theorem vc_Ho_drawLine_8_0 (x2 : Int) (x3 : Int) (x6 : Int) (x9 : Int) (y_0o1 : Int → Int) (bends_0o1 : Int → Int) (bendY_0o1 : Int → Int) (tail_0o5 : Int → Int) (head_0o5 : Int → Int) (leastX_0o1 : Int) (mostX_0o1 : Int) (x_0o1 : Int → Int) (bendX_0o1 : Int → Int) (nodes_0o5 : Int) (edges_0o5 : Int) (leastY_0o1 : Int) (mostY_0o1 : Int) (k2 : 0 ≤ x2 ∧ x2 ≤ 47) (k3 : 1 ≤ x3 ∧ x3 ≤ 24) (k9 : (-41000000) ≤ x9 ∧ x9 ≤ 1001000000) (f0 : PTY (y_0o1) (bends_0o1) (bendY_0o1) (tail_0o5) (head_0o5) (x2) (x3) (x9)) (f4 : MSY (leastY_0o1) (mostY_0o1) (nodes_0o5) (edges_0o5) (y_0o1) (bends_0o1) (bendY_0o1)) (f5 : GKE (nodes_0o5) (edges_0o5) (tail_0o5) (head_0o5)) (f6 : (0 ≤ x2) ∧ ((x2 + 1) ≤ edges_0o5)) (f7 : 0 ≤ x3) (kz_1_18 : (-41000000) ≤ leastY_0o1 ∧ leastY_0o1 ≤ 690000000) (kz_1_20 : (-40000000) ≤ mostY_0o1 ∧ mostY_0o1 ≤ 1001000000) (kz_5_0 : 0 ≤ nodes_0o5 ∧ nodes_0o5 ≤ 24) (kz_5_1 : 0 ≤ edges_0o5 ∧ edges_0o5 ≤ 48) : (leastY_0o1 ≤ x9) ∧ (x9 ≤ mostY_0o1) := by
  first
    | omega
    | assumption
    | (have h := ptx_in (an := x6) (show MSX leastX_0o1 mostX_0o1 nodes_0o5 edges_0o5 x_0o1 bends_0o1 bendX_0o1 by assumption) ‹GKE _ _ _ _› (show PTX x_0o1 bends_0o1 bendX_0o1 tail_0o5 head_0o5 _ _ x6 by assumption) (by omega) (by omega) (by omega)
       omega)
    | (have h := ptx_in (an := x14) (show MSX leastX_0o1 mostX_0o1 nodes_0o5 edges_0o5 x_0o1 bends_0o1 bendX_0o1 by assumption) ‹GKE _ _ _ _› (show PTX x_0o1 bends_0o1 bendX_0o1 tail_0o5 head_0o5 _ _ x14 by assumption) (by omega) (by omega) (by omega)
       omega)
    | (have h := ptx_in (an := x9) (show MSX leastY_0o1 mostY_0o1 nodes_0o5 edges_0o5 y_0o1 bends_0o1 bendY_0o1 by assumption) ‹GKE _ _ _ _› (show PTX y_0o1 bends_0o1 bendY_0o1 tail_0o5 head_0o5 _ _ x9 by assumption) (by omega) (by omega) (by omega)
       omega)
    | (have h := ptx_in (an := x18) (show MSX leastY_0o1 mostY_0o1 nodes_0o5 edges_0o5 y_0o1 bends_0o1 bendY_0o1 by assumption) ‹GKE _ _ _ _› (show PTX y_0o1 bends_0o1 bendY_0o1 tail_0o5 head_0o5 _ _ x18 by assumption) (by omega) (by omega) (by omega)
       omega)
  
def o_Ho_drawLine_8 : or_T := (27, 11, [(1, (2, 0, 0, [0])), (2, (0, 0, 47, [])), (3, (0, 1, 24, [])), (5, (2, 0, 0, [3])), (6, (0, -40000000, 690000000, [])), (9, (0, -41000000, 1001000000, []))], [(20, [1, 5, 2, 3, 9], [60, 0, 5, 940, 3, 4, 6, 1007, 1008]), (20, [1, 6], [50, 2, 0, 17, 19, 2, 7, 0, 3, 2, 0, 17, 1, 1, 0, 2, 1, 1, 2, 0, 19]), (20, [1, 5, 2, 3, 6], [60, 0, 5, 933, 2, 4, 5, 1007, 1008]), (20, [1, 5], [60, 4, 3, 932, 17, 19, 1000, 1001, 2, 4, 5]), (20, [1, 5], [60, 4, 3, 939, 18, 20, 1000, 1001, 3, 4, 6]), (20, [5], [60, 2, 2, 596, 0, 1, 7, 8]), (20, [2, 5], [50, 1, 0, 1001, 2, 6, 0, 2, 0, 0, 1, 0, 0, 6, 4, 2, 1, 0, 0, 1, 2, 1, 1]), (20, [3], [50, 0, 0, 0, 2, 0, 0, 1, 0])], [], [], [(20, [1, 9], [50, 2, 0, 18, 20, 2, 7, 0, 3, 2, 0, 18, 1, 1, 0, 2, 1, 1, 2, 0, 20])], [], [])
theorem oo_Ho_drawLine_8 {kA : Nat → ClassId} : or_ok PRD kA GG o_Ho_drawLine_8 := by
  refine or_mk fun A ta ws vs hD hth hl => ?_
  intro t1 r1 t2 k2 t3 k3 t5 r5 t6 k6 t9 k9 f0 f1 f2 f3 f4 f5 f6 f7
  have kz_1_18 := fdq_200 hD hth r1
  have kz_1_20 := fdq_201 hD hth r1
  have kz_5_0 := fdq_21 hD hth r5
  have kz_5_1 := fdq_30 hD hth r5
  have nf0 : fc_1 PRD (20, [1, 9], [50, 2, 0, 18, 20, 2, 7, 0, 3, 2, 0, 18, 1, 1, 0, 2, 1, 1, 2, 0, 20]) ws (vs) := ⟨nf_in hl rfl, sgq_800 (vc_Ho_drawLine_8_0 (v_iv (n_v vs 2)) (v_iv (n_v vs 3)) (v_iv (n_v vs 6)) (v_iv (n_v vs 9)) (w_ei ws (w_ar ws (n_v vs 1) 3)) (w_ei ws (w_ar ws (n_v vs 1) 4)) (w_ei ws (w_ar ws (n_v vs 1) 6)) (w_ei ws (w_ar ws (n_v vs 5) 7)) (w_ei ws (w_ar ws (n_v vs 5) 8)) (w_fi ws (n_v vs 1) 17) (w_fi ws (n_v vs 1) 19) (w_ei ws (w_ar ws (n_v vs 1) 2)) (w_ei ws (w_ar ws (n_v vs 1) 5)) (w_fi ws (n_v vs 5) 0) (w_fi ws (n_v vs 5) 1) (w_fi ws (n_v vs 1) 18) (w_fi ws (n_v vs 1) 20) k2 k3 k9 (shm_344 f0) (shm_1491 f4) (shm_386 f5) (shm_387 f6) (shm_722 f7) kz_1_18 kz_1_20 kz_5_0 kz_5_1)⟩
  refine ⟨(fun _ h => (by cases h)), [], trivial, ?_, (fun _ h => (by cases h))⟩
  rw [List.append_nil]
  exact List.forall_mem_cons.mpr ⟨⟨show (20 : Nat) < 100 from by decide, nf0⟩, (fun _ h => (by cases h))⟩
set_option maxHeartbeats 4000000 in
theorem vc_Ho_drawLine_9_0 (x2 : Int) (x6 : Int) (x9 : Int) (x13 : Int) (x14 : Int) (x_0o1 : Int → Int) (bends_0o1 : Int → Int) (bendX_0o1 : Int → Int) (tail_0o5 : Int → Int) (head_0o5 : Int → Int) (leastY_0o1 : Int) (mostY_0o1 : Int) (y_0o1 : Int → Int) (bendY_0o1 : Int → Int) (leastX_0o1 : Int) (mostX_0o1 : Int) (nodes_0o5 : Int) (edges_0o5 : Int) (k2 : 0 ≤ x2 ∧ x2 ≤ 47) (k13 : 2 ≤ x13 ∧ x13 ≤ 25) (k14 : (-40000000) ≤ x14 ∧ x14 ≤ 690000000) (f0 : PTX (x_0o1) (bends_0o1) (bendX_0o1) (tail_0o5) (head_0o5) (x2) (x13) (x14)) (f6 : MSX (leastX_0o1) (mostX_0o1) (nodes_0o5) (edges_0o5) (x_0o1) (bends_0o1) (bendX_0o1)) (f8 : GKE (nodes_0o5) (edges_0o5) (tail_0o5) (head_0o5)) (f9 : (0 ≤ x2) ∧ ((x2 + 1) ≤ edges_0o5)) (kz_1_17 : (-41000000) ≤ leastX_0o1 ∧ leastX_0o1 ≤ 690000000) (kz_1_19 : (-40000000) ≤ mostX_0o1 ∧ mostX_0o1 ≤ 1001000000) (kz_5_0 : 0 ≤ nodes_0o5 ∧ nodes_0o5 ≤ 24) (kz_5_1 : 0 ≤ edges_0o5 ∧ edges_0o5 ≤ 48) : (leastX_0o1 ≤ x14) ∧ (x14 ≤ mostX_0o1) := by
  first
    | omega
    | assumption
    | (have h := ptx_in (an := x6) (show MSX leastX_0o1 mostX_0o1 nodes_0o5 edges_0o5 x_0o1 bends_0o1 bendX_0o1 by assumption) ‹GKE _ _ _ _› (show PTX x_0o1 bends_0o1 bendX_0o1 tail_0o5 head_0o5 _ _ x6 by assumption) (by omega) (by omega) (by omega)
       omega)
    | (have h := ptx_in (an := x14) (show MSX leastX_0o1 mostX_0o1 nodes_0o5 edges_0o5 x_0o1 bends_0o1 bendX_0o1 by assumption) ‹GKE _ _ _ _› (show PTX x_0o1 bends_0o1 bendX_0o1 tail_0o5 head_0o5 _ _ x14 by assumption) (by omega) (by omega) (by omega)
       omega)
    | (have h := ptx_in (an := x9) (show MSX leastY_0o1 mostY_0o1 nodes_0o5 edges_0o5 y_0o1 bends_0o1 bendY_0o1 by assumption) ‹GKE _ _ _ _› (show PTX y_0o1 bends_0o1 bendY_0o1 tail_0o5 head_0o5 _ _ x9 by assumption) (by omega) (by omega) (by omega)
       omega)
    | (have h := ptx_in (an := x18) (show MSX leastY_0o1 mostY_0o1 nodes_0o5 edges_0o5 y_0o1 bends_0o1 bendY_0o1 by assumption) ‹GKE _ _ _ _› (show PTX y_0o1 bends_0o1 bendY_0o1 tail_0o5 head_0o5 _ _ x18 by assumption) (by omega) (by omega) (by omega)
       omega)
  
def o_Ho_drawLine_9 : or_T := (45, 15, [(1, (2, 0, 0, [0])), (2, (0, 0, 47, [])), (3, (0, 1, 24, [])), (5, (2, 0, 0, [3])), (6, (0, -40000000, 690000000, [])), (9, (0, -41000000, 1001000000, [])), (12, (0, 1, 1, [])), (13, (0, 2, 25, [])), (14, (0, -40000000, 690000000, []))], [(20, [1, 5, 2, 13, 14], [60, 0, 5, 933, 2, 4, 5, 1007, 1008]), (1, [13, 3, 12], []), (20, [1, 9], [50, 2, 0, 18, 20, 2, 7, 0, 3, 2, 0, 18, 1, 1, 0, 2, 1, 1, 2, 0, 20]), (20, [1, 5, 2, 3, 9], [60, 0, 5, 940, 3, 4, 6, 1007, 1008]), (20, [1, 6], [50, 2, 0, 17, 19, 2, 7, 0, 3, 2, 0, 17, 1, 1, 0, 2, 1, 1, 2, 0, 19]), (20, [1, 5, 2, 3, 6], [60, 0, 5, 933, 2, 4, 5, 1007, 1008]), (20, [1, 5], [60, 4, 3, 932, 17, 19, 1000, 1001, 2, 4, 5]), (20, [1, 5], [60, 4, 3, 939, 18, 20, 1000, 1001, 3, 4, 6]), (20, [5], [60, 2, 2, 596, 0, 1, 7, 8]), (20, [2, 5], [50, 1, 0, 1001, 2, 6, 0, 2, 0, 0, 1, 0, 0, 6, 4, 2, 1, 0, 0, 1, 2, 1, 1]), (20, [3], [50, 0, 0, 0, 2, 0, 0, 1, 0])], [], [], [(20, [1, 14], [50, 2, 0, 17, 19, 2, 7, 0, 3, 2, 0, 17, 1, 1, 0, 2, 1, 1, 2, 0, 19])], [], [(13, 3, 1, 1)])
theorem oo_Ho_drawLine_9 {kA : Nat → ClassId} : or_ok PRD kA GG o_Ho_drawLine_9 := by
  refine or_mk fun A ta ws vs hD hth hl => ?_
  intro t1 r1 t2 k2 t3 k3 t5 r5 t6 k6 t9 k9 t12 k12 t13 k13 t14 k14 d0 f0 f1 f2 f3 f4 f5 f6 f7 f8 f9 f10
  have kz_1_17 := fdq_198 hD hth r1
  have kz_1_19 := fdq_199 hD hth r1
  have kz_5_0 := fdq_21 hD hth r5
  have kz_5_1 := fdq_30 hD hth r5
  have nf0 : fc_1 PRD (20, [1, 14], [50, 2, 0, 17, 19, 2, 7, 0, 3, 2, 0, 17, 1, 1, 0, 2, 1, 1, 2, 0, 19]) ws (vs) := ⟨nf_in hl rfl, sgq_798 (vc_Ho_drawLine_9_0 (v_iv (n_v vs 2)) (v_iv (n_v vs 6)) (v_iv (n_v vs 9)) (v_iv (n_v vs 13)) (v_iv (n_v vs 14)) (w_ei ws (w_ar ws (n_v vs 1) 2)) (w_ei ws (w_ar ws (n_v vs 1) 4)) (w_ei ws (w_ar ws (n_v vs 1) 5)) (w_ei ws (w_ar ws (n_v vs 5) 7)) (w_ei ws (w_ar ws (n_v vs 5) 8)) (w_fi ws (n_v vs 1) 18) (w_fi ws (n_v vs 1) 20) (w_ei ws (w_ar ws (n_v vs 1) 3)) (w_ei ws (w_ar ws (n_v vs 1) 6)) (w_fi ws (n_v vs 1) 17) (w_fi ws (n_v vs 1) 19) (w_fi ws (n_v vs 5) 0) (w_fi ws (n_v vs 5) 1) k2 k13 k14 (shm_343 f0) (shm_1490 f6) (shm_386 f8) (shm_387 f9) kz_1_17 kz_1_19 kz_5_0 kz_5_1)⟩
  refine ⟨(fun _ h => (by cases h)), [], trivial, ?_, (fun _ h => (by cases h))⟩
  rw [List.append_nil]
  exact List.forall_mem_cons.mpr ⟨⟨show (20 : Nat) < 100 from by decide, nf0⟩, (fun _ h => (by cases h))⟩
set_option maxHeartbeats 4000000 in
theorem vc_Ho_drawLine_10_0 (x2 : Int) (x3 : Int) (x6 : Int) (x9 : Int) (x13 : Int) (x14 : Int) (x17 : Int) (x18 : Int) (y_0o1 : Int → Int) (bends_0o1 : Int → Int) (bendY_0o1 : Int → Int) (tail_0o5 : Int → Int) (head_0o5 : Int → Int) (leastX_0o1 : Int) (mostX_0o1 : Int) (x_0o1 : Int → Int) (bendX_0o1 : Int → Int) (leastY_0o1 : Int) (mostY_0o1 : Int) (nodes_0o5 : Int) (edges_0o5 : Int) (k2 : 0 ≤ x2 ∧ x2 ≤ 47) (k3 : 1 ≤ x3 ∧ x3 ≤ 24) (k13 : 2 ≤ x13 ∧ x13 ≤ 25) (k17 : 2 ≤ x17 ∧ x17 ≤ 25) (k18 : (-40000000) ≤ x18 ∧ x18 ≤ 690000000) (d0 : x3 + 1 ≤ x17 ∧ x17 ≤ x3 + 1) (d1 : x3 + 1 ≤ x13 ∧ x13 ≤ x3 + 1) (f0 : PTY (y_0o1) (bends_0o1) (bendY_0o1) (tail_0o5) (head_0o5) (x2) (x17) (x18)) (f10 : MSY (leastY_0o1) (mostY_0o1) (nodes_0o5) (edges_0o5) (y_0o1) (bends_0o1) (bendY_0o1)) (f11 : GKE (nodes_0o5) (edges_0o5) (tail_0o5) (head_0o5)) (f12 : (0 ≤ x2) ∧ ((x2 + 1) ≤ edges_0o5)) (kz_1_18 : (-41000000) ≤ leastY_0o1 ∧ leastY_0o1 ≤ 690000000) (kz_1_20 : (-40000000) ≤ mostY_0o1 ∧ mostY_0o1 ≤ 1001000000) (kz_5_0 : 0 ≤ nodes_0o5 ∧ nodes_0o5 ≤ 24) (kz_5_1 : 0 ≤ edges_0o5 ∧ edges_0o5 ≤ 48) : (leastY_0o1 ≤ x18) ∧ (x18 ≤ mostY_0o1) := by
  first
    | omega
    | assumption
    | (have h := ptx_in (an := x6) (show MSX leastX_0o1 mostX_0o1 nodes_0o5 edges_0o5 x_0o1 bends_0o1 bendX_0o1 by assumption) ‹GKE _ _ _ _› (show PTX x_0o1 bends_0o1 bendX_0o1 tail_0o5 head_0o5 _ _ x6 by assumption) (by omega) (by omega) (by omega)
       omega)
    | (have h := ptx_in (an := x14) (show MSX leastX_0o1 mostX_0o1 nodes_0o5 edges_0o5 x_0o1 bends_0o1 bendX_0o1 by assumption) ‹GKE _ _ _ _› (show PTX x_0o1 bends_0o1 bendX_0o1 tail_0o5 head_0o5 _ _ x14 by assumption) (by omega) (by omega) (by omega)
       omega)
    | (have h := ptx_in (an := x9) (show MSX leastY_0o1 mostY_0o1 nodes_0o5 edges_0o5 y_0o1 bends_0o1 bendY_0o1 by assumption) ‹GKE _ _ _ _› (show PTX y_0o1 bends_0o1 bendY_0o1 tail_0o5 head_0o5 _ _ x9 by assumption) (by omega) (by omega) (by omega)
       omega)
    | (have h := ptx_in (an := x18) (show MSX leastY_0o1 mostY_0o1 nodes_0o5 edges_0o5 y_0o1 bends_0o1 bendY_0o1 by assumption) ‹GKE _ _ _ _› (show PTX y_0o1 bends_0o1 bendY_0o1 tail_0o5 head_0o5 _ _ x18 by assumption) (by omega) (by omega) (by omega)
       omega)
  
def o_Ho_drawLine_10 : or_T := (63, 19, [(1, (2, 0, 0, [0])), (2, (0, 0, 47, [])), (3, (0, 1, 24, [])), (5, (2, 0, 0, [3])), (6, (0, -40000000, 690000000, [])), (9, (0, -41000000, 1001000000, [])), (12, (0, 1, 1, [])), (13, (0, 2, 25, [])), (14, (0, -40000000, 690000000, [])), (16, (0, 1, 1, [])), (17, (0, 2, 25, [])), (18, (0, -40000000, 690000000, []))], [(20, [1, 5, 2, 17, 18], [60, 0, 5, 940, 3, 4, 6, 1007, 1008]), (1, [17, 3, 16], []), (20, [1, 14], [50, 2, 0, 17, 19, 2, 7, 0, 3, 2, 0, 17, 1, 1, 0, 2, 1, 1, 2, 0, 19]), (20, [1, 5, 2, 13, 14], [60, 0, 5, 933, 2, 4, 5, 1007, 1008]), (1, [13, 3, 12], []), (20, [1, 9], [50, 2, 0, 18, 20, 2, 7, 0, 3, 2, 0, 18, 1, 1, 0, 2, 1, 1, 2, 0, 20]), (20, [1, 5, 2, 3, 9], [60, 0, 5, 940, 3, 4, 6, 1007, 1008]), (20, [1, 6], [50, 2, 0, 17, 19, 2, 7, 0, 3, 2, 0, 17, 1, 1, 0, 2, 1, 1, 2, 0, 19]), (20, [1, 5, 2, 3, 6], [60, 0, 5, 933, 2, 4, 5, 1007, 1008]), (20, [1, 5], [60, 4, 3, 932, 17, 19, 1000, 1001, 2, 4, 5]), (20, [1, 5], [60, 4, 3, 939, 18, 20, 1000, 1001, 3, 4, 6]), (20, [5], [60, 2, 2, 596, 0, 1, 7, 8]), (20, [2, 5], [50, 1, 0, 1001, 2, 6, 0, 2, 0, 0, 1, 0, 0, 6, 4, 2, 1, 0, 0, 1, 2, 1, 1]), (20, [3], [50, 0, 0, 0, 2, 0, 0, 1, 0])], [], [], [(20, [1, 18], [50, 2, 0, 18, 20, 2, 7, 0, 3, 2, 0, 18, 1, 1, 0, 2, 1, 1, 2, 0, 20])], [], [(17, 3, 1, 1), (13, 3, 1, 1)])
theorem oo_Ho_drawLine_10 {kA : Nat → ClassId} : or_ok PRD kA GG o_Ho_drawLine_10 := by
  refine or_mk fun A ta ws vs hD hth hl => ?_
  intro t1 r1 t2 k2 t3 k3 t5 r5 t6 k6 t9 k9 t12 k12 t13 k13 t14 k14 t16 k16 t17 k17 t18 k18 d0 d1 f0 f1 f2 f3 f4 f5 f6 f7 f8 f9 f10 f11 f12 f13
  have kz_1_18 := fdq_200 hD hth r1
  have kz_1_20 := fdq_201 hD hth r1
  have kz_5_0 := fdq_21 hD hth r5
  have kz_5_1 := fdq_30 hD hth r5
  have nf0 : fc_1 PRD (20, [1, 18], [50, 2, 0, 18, 20, 2, 7, 0, 3, 2, 0, 18, 1, 1, 0, 2, 1, 1, 2, 0, 20]) ws (vs) := ⟨nf_in hl rfl, sgq_800 (vc_Ho_drawLine_10_0 (v_iv (n_v vs 2)) (v_iv (n_v vs 3)) (v_iv (n_v vs 6)) (v_iv (n_v vs 9)) (v_iv (n_v vs 13)) (v_iv (n_v vs 14)) (v_iv (n_v vs 17)) (v_iv (n_v vs 18)) (w_ei ws (w_ar ws (n_v vs 1) 3)) (w_ei ws (w_ar ws (n_v vs 1) 4)) (w_ei ws (w_ar ws (n_v vs 1) 6)) (w_ei ws (w_ar ws (n_v vs 5) 7)) (w_ei ws (w_ar ws (n_v vs 5) 8)) (w_fi ws (n_v vs 1) 17) (w_fi ws (n_v vs 1) 19) (w_ei ws (w_ar ws (n_v vs 1) 2)) (w_ei ws (w_ar ws (n_v vs 1) 5)) (w_fi ws (n_v vs 1) 18) (w_fi ws (n_v vs 1) 20) (w_fi ws (n_v vs 5) 0) (w_fi ws (n_v vs 5) 1) k2 k3 k13 k17 k18 d0 d1 (shm_344 f0) (shm_1491 f10) (shm_386 f11) (shm_387 f12) kz_1_18 kz_1_20 kz_5_0 kz_5_1)⟩
  refine ⟨(fun _ h => (by cases h)), [], trivial, ?_, (fun _ h => (by cases h))⟩
  rw [List.append_nil]
  exact List.forall_mem_cons.mpr ⟨⟨show (20 : Nat) < 100 from by decide, nf0⟩, (fun _ h => (by cases h))⟩
set_option maxHeartbeats 4000000 in
theorem vc_Ho_drawLine_11_0 (x2 : Int) (x3 : Int) (x6 : Int) (x9 : Int) (x14 : Int) (x17 : Int) (x18 : Int) (y_0o1 : Int → Int) (bends_0o1 : Int → Int) (bendY_0o1 : Int → Int) (tail_0o5 : Int → Int) (head_0o5 : Int → Int) (leastX_0o1 : Int) (mostX_0o1 : Int) (x_0o1 : Int → Int) (bendX_0o1 : Int → Int) (leastY_0o1 : Int) (mostY_0o1 : Int) (nodes_0o5 : Int) (edges_0o5 : Int) (k2 : 0 ≤ x2 ∧ x2 ≤ 47) (k3 : 1 ≤ x3 ∧ x3 ≤ 23) (k17 : 2 ≤ x17 ∧ x17 ≤ 24) (k18 : (-41000000) ≤ x18 ∧ x18 ≤ 1001000000) (d0 : x3 + 1 ≤ x17 ∧ x17 ≤ x3 + 1) (f0 : PTY (y_0o1) (bends_0o1) (bendY_0o1) (tail_0o5) (head_0o5) (x2) (x17) (x18)) (f10 : MSY (leastY_0o1) (mostY_0o1) (nodes_0o5) (edges_0o5) (y_0o1) (bends_0o1) (bendY_0o1)) (f11 : GKE (nodes_0o5) (edges_0o5) (tail_0o5) (head_0o5)) (f12 : (0 ≤ x2) ∧ ((x2 + 1) ≤ edges_0o5)) (kz_1_18 : (-41000000) ≤ leastY_0o1 ∧ leastY_0o1 ≤ 690000000) (kz_1_20 : (-40000000) ≤ mostY_0o1 ∧ mostY_0o1 ≤ 1001000000) (kz_5_0 : 0 ≤ nodes_0o5 ∧ nodes_0o5 ≤ 24) (kz_5_1 : 0 ≤ edges_0o5 ∧ edges_0o5 ≤ 48) : (leastY_0o1 ≤ x18) ∧ (x18 ≤ mostY_0o1) := by
  first
    | omega
    | assumption
    | (have h := ptx_in (an := x6) (show MSX leastX_0o1 mostX_0o1 nodes_0o5 edges_0o5 x_0o1 bends_0o1 bendX_0o1 by assumption) ‹GKE _ _ _ _› (show PTX x_0o1 bends_0o1 bendX_0o1 tail_0o5 head_0o5 _ _ x6 by assumption) (by omega) (by omega) (by omega)
       omega)
    | (have h := ptx_in (an := x14) (show MSX leastX_0o1 mostX_0o1 nodes_0o5 edges_0o5 x_0o1 bends_0o1 bendX_0o1 by assumption) ‹GKE _ _ _ _› (show PTX x_0o1 bends_0o1 bendX_0o1 tail_0o5 head_0o5 _ _ x14 by assumption) (by omega) (by omega) (by omega)
       omega)
    | (have h := ptx_in (an := x9) (show MSX leastY_0o1 mostY_0o1 nodes_0o5 edges_0o5 y_0o1 bends_0o1 bendY_0o1 by assumption) ‹GKE _ _ _ _› (show PTX y_0o1 bends_0o1 bendY_0o1 tail_0o5 head_0o5 _ _ x9 by assumption) (by omega) (by omega) (by omega)
       omega)
    | (have h := ptx_in (an := x18) (show MSX leastY_0o1 mostY_0o1 nodes_0o5 edges_0o5 y_0o1 bends_0o1 bendY_0o1 by assumption) ‹GKE _ _ _ _› (show PTX y_0o1 bends_0o1 bendY_0o1 tail_0o5 head_0o5 _ _ x18 by assumption) (by omega) (by omega) (by omega)
       omega)
  
def o_Ho_drawLine_11 : or_T := (63, 19, [(1, (2, 0, 0, [0])), (2, (0, 0, 47, [])), (3, (0, 1, 23, [])), (5, (2, 0, 0, [3])), (6, (0, -40000000, 690000000, [])), (9, (0, -41000000, 1001000000, [])), (12, (0, 1, 1, [])), (13, (0, 2, 25, [])), (14, (0, -40000000, 690000000, [])), (16, (0, 1, 1, [])), (17, (0, 2, 24, [])), (18, (0, -41000000, 1001000000, []))], [(20, [1, 5, 2, 17, 18], [60, 0, 5, 940, 3, 4, 6, 1007, 1008]), (1, [17, 3, 16], []), (20, [1, 14], [50, 2, 0, 17, 19, 2, 7, 0, 3, 2, 0, 17, 1, 1, 0, 2, 1, 1, 2, 0, 19]), (20, [1, 5, 2, 13, 14], [60, 0, 5, 933, 2, 4, 5, 1007, 1008]), (1, [13, 3, 12], []), (20, [1, 9], [50, 2, 0, 18, 20, 2, 7, 0, 3, 2, 0, 18, 1, 1, 0, 2, 1, 1, 2, 0, 20]), (20, [1, 5, 2, 3, 9], [60, 0, 5, 940, 3, 4, 6, 1007, 1008]), (20, [1, 6], [50, 2, 0, 17, 19, 2, 7, 0, 3, 2, 0, 17, 1, 1, 0, 2, 1, 1, 2, 0, 19]), (20, [1, 5, 2, 3, 6], [60, 0, 5, 933, 2, 4, 5, 1007, 1008]), (20, [1, 5], [60, 4, 3, 932, 17, 19, 1000, 1001, 2, 4, 5]), (20, [1, 5], [60, 4, 3, 939, 18, 20, 1000, 1001, 3, 4, 6]), (20, [5], [60, 2, 2, 596, 0, 1, 7, 8]), (20, [2, 5], [50, 1, 0, 1001, 2, 6, 0, 2, 0, 0, 1, 0, 0, 6, 4, 2, 1, 0, 0, 1, 2, 1, 1]), (20, [3], [50, 0, 0, 0, 2, 0, 0, 1, 0])], [], [], [(20, [1, 18], [50, 2, 0, 18, 20, 2, 7, 0, 3, 2, 0, 18, 1, 1, 0, 2, 1, 1, 2, 0, 20])], [], [(17, 3, 1, 1), (13, 3, 1, 1)])
theorem oo_Ho_drawLine_11 {kA : Nat → ClassId} : or_ok PRD kA GG o_Ho_drawLine_11 := by
  refine or_mk fun A ta ws vs hD hth hl => ?_
  intro t1 r1 t2 k2 t3 k3 t5 r5 t6 k6 t9 k9 t12 k12 t13 k13 t14 k14 t16 k16 t17 k17 t18 k18 d0 d1 f0 f1 f2 f3 f4 f5 f6 f7 f8 f9 f10 f11 f12 f13
  have kz_1_18 := fdq_200 hD hth r1
  have kz_1_20 := fdq_201 hD hth r1
  have kz_5_0 := fdq_21 hD hth r5
  have kz_5_1 := fdq_30 hD hth r5
  have nf0 : fc_1 PRD (20, [1, 18], [50, 2, 0, 18, 20, 2, 7, 0, 3, 2, 0, 18, 1, 1, 0, 2, 1, 1, 2, 0, 20]) ws (vs) := ⟨nf_in hl rfl, sgq_800 (vc_Ho_drawLine_11_0 (v_iv (n_v vs 2)) (v_iv (n_v vs 3)) (v_iv (n_v vs 6)) (v_iv (n_v vs 9)) (v_iv (n_v vs 14)) (v_iv (n_v vs 17)) (v_iv (n_v vs 18)) (w_ei ws (w_ar ws (n_v vs 1) 3)) (w_ei ws (w_ar ws (n_v vs 1) 4)) (w_ei ws (w_ar ws (n_v vs 1) 6)) (w_ei ws (w_ar ws (n_v vs 5) 7)) (w_ei ws (w_ar ws (n_v vs 5) 8)) (w_fi ws (n_v vs 1) 17) (w_fi ws (n_v vs 1) 19) (w_ei ws (w_ar ws (n_v vs 1) 2)) (w_ei ws (w_ar ws (n_v vs 1) 5)) (w_fi ws (n_v vs 1) 18) (w_fi ws (n_v vs 1) 20) (w_fi ws (n_v vs 5) 0) (w_fi ws (n_v vs 5) 1) k2 k3 k17 k18 d0 (shm_344 f0) (shm_1491 f10) (shm_386 f11) (shm_387 f12) kz_1_18 kz_1_20 kz_5_0 kz_5_1)⟩
  refine ⟨(fun _ h => (by cases h)), [], trivial, ?_, (fun _ h => (by cases h))⟩
  rw [List.append_nil]
  exact List.forall_mem_cons.mpr ⟨⟨show (20 : Nat) < 100 from by decide, nf0⟩, (fun _ h => (by cases h))⟩
set_option maxHeartbeats 4000000 in
theorem vc_Ho_drawLine_12_0 (x2 : Int) (x6 : Int) (x9 : Int) (x13 : Int) (x14 : Int) (x_0o1 : Int → Int) (bends_0o1 : Int → Int) (bendX_0o1 : Int → Int) (tail_0o5 : Int → Int) (head_0o5 : Int → Int) (leastY_0o1 : Int) (mostY_0o1 : Int) (y_0o1 : Int → Int) (bendY_0o1 : Int → Int) (leastX_0o1 : Int) (mostX_0o1 : Int) (nodes_0o5 : Int) (edges_0o5 : Int) (k2 : 0 ≤ x2 ∧ x2 ≤ 47) (k13 : 2 ≤ x13 ∧ x13 ≤ 24) (k14 : (-41000000) ≤ x14 ∧ x14 ≤ 1001000000) (f0 : PTX (x_0o1) (bends_0o1) (bendX_0o1) (tail_0o5) (head_0o5) (x2) (x13) (x14)) (f6 : MSX (leastX_0o1) (mostX_0o1) (nodes_0o5) (edges_0o5) (x_0o1) (bends_0o1) (bendX_0o1)) (f8 : GKE (nodes_0o5) (edges_0o5) (tail_0o5) (head_0o5)) (f9 : (0 ≤ x2) ∧ ((x2 + 1) ≤ edges_0o5)) (kz_1_17 : (-41000000) ≤ leastX_0o1 ∧ leastX_0o1 ≤ 690000000) (kz_1_19 : (-40000000) ≤ mostX_0o1 ∧ mostX_0o1 ≤ 1001000000) (kz_5_0 : 0 ≤ nodes_0o5 ∧ nodes_0o5 ≤ 24) (kz_5_1 : 0 ≤ edges_0o5 ∧ edges_0o5 ≤ 48) : (leastX_0o1 ≤ x14) ∧ (x14 ≤ mostX_0o1) := by
  first
    | omega
    | assumption
    | (have h := ptx_in (an := x6) (show MSX leastX_0o1 mostX_0o1 nodes_0o5 edges_0o5 x_0o1 bends_0o1 bendX_0o1 by assumption) ‹GKE _ _ _ _› (show PTX x_0o1 bends_0o1 bendX_0o1 tail_0o5 head_0o5 _ _ x6 by assumption) (by omega) (by omega) (by omega)
       omega)
    | (have h := ptx_in (an := x14) (show MSX leastX_0o1 mostX_0o1 nodes_0o5 edges_0o5 x_0o1 bends_0o1 bendX_0o1 by assumption) ‹GKE _ _ _ _› (show PTX x_0o1 bends_0o1 bendX_0o1 tail_0o5 head_0o5 _ _ x14 by assumption) (by omega) (by omega) (by omega)
       omega)
    | (have h := ptx_in (an := x9) (show MSX leastY_0o1 mostY_0o1 nodes_0o5 edges_0o5 y_0o1 bends_0o1 bendY_0o1 by assumption) ‹GKE _ _ _ _› (show PTX y_0o1 bends_0o1 bendY_0o1 tail_0o5 head_0o5 _ _ x9 by assumption) (by omega) (by omega) (by omega)
       omega)
    | (have h := ptx_in (an := x18) (show MSX leastY_0o1 mostY_0o1 nodes_0o5 edges_0o5 y_0o1 bends_0o1 bendY_0o1 by assumption) ‹GKE _ _ _ _› (show PTX y_0o1 bends_0o1 bendY_0o1 tail_0o5 head_0o5 _ _ x18 by assumption) (by omega) (by omega) (by omega)
       omega)
  
def o_Ho_drawLine_12 : or_T := (45, 15, [(1, (2, 0, 0, [0])), (2, (0, 0, 47, [])), (3, (0, 1, 23, [])), (5, (2, 0, 0, [3])), (6, (0, -40000000, 690000000, [])), (9, (0, -41000000, 1001000000, [])), (12, (0, 1, 1, [])), (13, (0, 2, 24, [])), (14, (0, -41000000, 1001000000, []))], [(20, [1, 5, 2, 13, 14], [60, 0, 5, 933, 2, 4, 5, 1007, 1008]), (1, [13, 3, 12], []), (20, [1, 9], [50, 2, 0, 18, 20, 2, 7, 0, 3, 2, 0, 18, 1, 1, 0, 2, 1, 1, 2, 0, 20]), (20, [1, 5, 2, 3, 9], [60, 0, 5, 940, 3, 4, 6, 1007, 1008]), (20, [1, 6], [50, 2, 0, 17, 19, 2, 7, 0, 3, 2, 0, 17, 1, 1, 0, 2, 1, 1, 2, 0, 19]), (20, [1, 5, 2, 3, 6], [60, 0, 5, 933, 2, 4, 5, 1007, 1008]), (20, [1, 5], [60, 4, 3, 932, 17, 19, 1000, 1001, 2, 4, 5]), (20, [1, 5], [60, 4, 3, 939, 18, 20, 1000, 1001, 3, 4, 6]), (20, [5], [60, 2, 2, 596, 0, 1, 7, 8]), (20, [2, 5], [50, 1, 0, 1001, 2, 6, 0, 2, 0, 0, 1, 0, 0, 6, 4, 2, 1, 0, 0, 1, 2, 1, 1]), (20, [3], [50, 0, 0, 0, 2, 0, 0, 1, 0])], [], [], [(20, [1, 14], [50, 2, 0, 17, 19, 2, 7, 0, 3, 2, 0, 17, 1, 1, 0, 2, 1, 1, 2, 0, 19])], [], [(13, 3, 1, 1)])
theorem oo_Ho_drawLine_12 {kA : Nat → ClassId} : or_ok PRD kA GG o_Ho_drawLine_12 := by
  refine or_mk fun A ta ws vs hD hth hl => ?_
  intro t1 r1 t2 k2 t3 k3 t5 r5 t6 k6 t9 k9 t12 k12 t13 k13 t14 k14 d0 f0 f1 f2 f3 f4 f5 f6 f7 f8 f9 f10
  have kz_1_17 := fdq_198 hD hth r1
  have kz_1_19 := fdq_199 hD hth r1
  have kz_5_0 := fdq_21 hD hth r5
  have kz_5_1 := fdq_30 hD hth r5
  have nf0 : fc_1 PRD (20, [1, 14], [50, 2, 0, 17, 19, 2, 7, 0, 3, 2, 0, 17, 1, 1, 0, 2, 1, 1, 2, 0, 19]) ws (vs) := ⟨nf_in hl rfl, sgq_798 (vc_Ho_drawLine_12_0 (v_iv (n_v vs 2)) (v_iv (n_v vs 6)) (v_iv (n_v vs 9)) (v_iv (n_v vs 13)) (v_iv (n_v vs 14)) (w_ei ws (w_ar ws (n_v vs 1) 2)) (w_ei ws (w_ar ws (n_v vs 1) 4)) (w_ei ws (w_ar ws (n_v vs 1) 5)) (w_ei ws (w_ar ws (n_v vs 5) 7)) (w_ei ws (w_ar ws (n_v vs 5) 8)) (w_fi ws (n_v vs 1) 18) (w_fi ws (n_v vs 1) 20) (w_ei ws (w_ar ws (n_v vs 1) 3)) (w_ei ws (w_ar ws (n_v vs 1) 6)) (w_fi ws (n_v vs 1) 17) (w_fi ws (n_v vs 1) 19) (w_fi ws (n_v vs 5) 0) (w_fi ws (n_v vs 5) 1) k2 k13 k14 (shm_343 f0) (shm_1490 f6) (shm_386 f8) (shm_387 f9) kz_1_17 kz_1_19 kz_5_0 kz_5_1)⟩
  refine ⟨(fun _ h => (by cases h)), [], trivial, ?_, (fun _ h => (by cases h))⟩
  rw [List.append_nil]
  exact List.forall_mem_cons.mpr ⟨⟨show (20 : Nat) < 100 from by decide, nf0⟩, (fun _ h => (by cases h))⟩
set_option maxHeartbeats 4000000 in
theorem vc_Ho_drawLine_13_0 (x2 : Int) (x3 : Int) (x6 : Int) (x9 : Int) (x13 : Int) (x14 : Int) (x17 : Int) (x18 : Int) (y_0o1 : Int → Int) (bends_0o1 : Int → Int) (bendY_0o1 : Int → Int) (tail_0o5 : Int → Int) (head_0o5 : Int → Int) (leastX_0o1 : Int) (mostX_0o1 : Int) (x_0o1 : Int → Int) (bendX_0o1 : Int → Int) (leastY_0o1 : Int) (mostY_0o1 : Int) (nodes_0o5 : Int) (edges_0o5 : Int) (k2 : 0 ≤ x2 ∧ x2 ≤ 47) (k3 : 1 ≤ x3 ∧ x3 ≤ 23) (k13 : 2 ≤ x13 ∧ x13 ≤ 24) (k17 : 2 ≤ x17 ∧ x17 ≤ 24) (k18 : (-40000000) ≤ x18 ∧ x18 ≤ 690000000) (d0 : x3 + 1 ≤ x17 ∧ x17 ≤ x3 + 1) (d1 : x3 + 1 ≤ x13 ∧ x13 ≤ x3 + 1) (f0 : PTY (y_0o1) (bends_0o1) (bendY_0o1) (tail_0o5) (head_0o5) (x2) (x17) (x18)) (f10 : MSY (leastY_0o1) (mostY_0o1) (nodes_0o5) (edges_0o5) (y_0o1) (bends_0o1) (bendY_0o1)) (f11 : GKE (nodes_0o5) (edges_0o5) (tail_0o5) (head_0o5)) (f12 : (0 ≤ x2) ∧ ((x2 + 1) ≤ edges_0o5)) (kz_1_18 : (-41000000) ≤ leastY_0o1 ∧ leastY_0o1 ≤ 690000000) (kz_1_20 : (-40000000) ≤ mostY_0o1 ∧ mostY_0o1 ≤ 1001000000) (kz_5_0 : 0 ≤ nodes_0o5 ∧ nodes_0o5 ≤ 24) (kz_5_1 : 0 ≤ edges_0o5 ∧ edges_0o5 ≤ 48) : (leastY_0o1 ≤ x18) ∧ (x18 ≤ mostY_0o1) := by
  first
    | omega
    | assumption
    | (have h := ptx_in (an := x6) (show MSX leastX_0o1 mostX_0o1 nodes_0o5 edges_0o5 x_0o1 bends_0o1 bendX_0o1 by assumption) ‹GKE _ _ _ _› (show PTX x_0o1 bends_0o1 bendX_0o1 tail_0o5 head_0o5 _ _ x6 by assumption) (by omega) (by omega) (by omega)
       omega)
    | (have h := ptx_in (an := x14) (show MSX leastX_0o1 mostX_0o1 nodes_0o5 edges_0o5 x_0o1 bends_0o1 bendX_0o1 by assumption) ‹GKE _ _ _ _› (show PTX x_0o1 bends_0o1 bendX_0o1 tail_0o5 head_0o5 _ _ x14 by assumption) (by omega) (by omega) (by omega)
       omega)
    | (have h := ptx_in (an := x9) (show MSX leastY_0o1 mostY_0o1 nodes_0o5 edges_0o5 y_0o1 bends_0o1 bendY_0o1 by assumption) ‹GKE _ _ _ _› (show PTX y_0o1 bends_0o1 bendY_0o1 tail_0o5 head_0o5 _ _ x9 by assumption) (by omega) (by omega) (by omega)
       omega)
    | (have h := ptx_in (an := x18) (show MSX leastY_0o1 mostY_0o1 nodes_0o5 edges_0o5 y_0o1 bends_0o1 bendY_0o1 by assumption) ‹GKE _ _ _ _› (show PTX y_0o1 bends_0o1 bendY_0o1 tail_0o5 head_0o5 _ _ x18 by assumption) (by omega) (by omega) (by omega)
       omega)
  
def o_Ho_drawLine_13 : or_T := (63, 19, [(1, (2, 0, 0, [0])), (2, (0, 0, 47, [])), (3, (0, 1, 23, [])), (5, (2, 0, 0, [3])), (6, (0, -40000000, 690000000, [])), (9, (0, -41000000, 1001000000, [])), (12, (0, 1, 1, [])), (13, (0, 2, 24, [])), (14, (0, -41000000, 1001000000, [])), (16, (0, 1, 1, [])), (17, (0, 2, 24, [])), (18, (0, -40000000, 690000000, []))], [(20, [1, 5, 2, 17, 18], [60, 0, 5, 940, 3, 4, 6, 1007, 1008]), (1, [17, 3, 16], []), (20, [1, 14], [50, 2, 0, 17, 19, 2, 7, 0, 3, 2, 0, 17, 1, 1, 0, 2, 1, 1, 2, 0, 19]), (20, [1, 5, 2, 13, 14], [60, 0, 5, 933, 2, 4, 5, 1007, 1008]), (1, [13, 3, 12], []), (20, [1, 9], [50, 2, 0, 18, 20, 2, 7, 0, 3, 2, 0, 18, 1, 1, 0, 2, 1, 1, 2, 0, 20]), (20, [1, 5, 2, 3, 9], [60, 0, 5, 940, 3, 4, 6, 1007, 1008]), (20, [1, 6], [50, 2, 0, 17, 19, 2, 7, 0, 3, 2, 0, 17, 1, 1, 0, 2, 1, 1, 2, 0, 19]), (20, [1, 5, 2, 3, 6], [60, 0, 5, 933, 2, 4, 5, 1007, 1008]), (20, [1, 5], [60, 4, 3, 932, 17, 19, 1000, 1001, 2, 4, 5]), (20, [1, 5], [60, 4, 3, 939, 18, 20, 1000, 1001, 3, 4, 6]), (20, [5], [60, 2, 2, 596, 0, 1, 7, 8]), (20, [2, 5], [50, 1, 0, 1001, 2, 6, 0, 2, 0, 0, 1, 0, 0, 6, 4, 2, 1, 0, 0, 1, 2, 1, 1]), (20, [3], [50, 0, 0, 0, 2, 0, 0, 1, 0])], [], [], [(20, [1, 18], [50, 2, 0, 18, 20, 2, 7, 0, 3, 2, 0, 18, 1, 1, 0, 2, 1, 1, 2, 0, 20])], [], [(17, 3, 1, 1), (13, 3, 1, 1)])
theorem oo_Ho_drawLine_13 {kA : Nat → ClassId} : or_ok PRD kA GG o_Ho_drawLine_13 := by
  refine or_mk fun A ta ws vs hD hth hl => ?_
  intro t1 r1 t2 k2 t3 k3 t5 r5 t6 k6 t9 k9 t12 k12 t13 k13 t14 k14 t16 k16 t17 k17 t18 k18 d0 d1 f0 f1 f2 f3 f4 f5 f6 f7 f8 f9 f10 f11 f12 f13
  have kz_1_18 := fdq_200 hD hth r1
  have kz_1_20 := fdq_201 hD hth r1
  have kz_5_0 := fdq_21 hD hth r5
  have kz_5_1 := fdq_30 hD hth r5
  have nf0 : fc_1 PRD (20, [1, 18], [50, 2, 0, 18, 20, 2, 7, 0, 3, 2, 0, 18, 1, 1, 0, 2, 1, 1, 2, 0, 20]) ws (vs) := ⟨nf_in hl rfl, sgq_800 (vc_Ho_drawLine_13_0 (v_iv (n_v vs 2)) (v_iv (n_v vs 3)) (v_iv (n_v vs 6)) (v_iv (n_v vs 9)) (v_iv (n_v vs 13)) (v_iv (n_v vs 14)) (v_iv (n_v vs 17)) (v_iv (n_v vs 18)) (w_ei ws (w_ar ws (n_v vs 1) 3)) (w_ei ws (w_ar ws (n_v vs 1) 4)) (w_ei ws (w_ar ws (n_v vs 1) 6)) (w_ei ws (w_ar ws (n_v vs 5) 7)) (w_ei ws (w_ar ws (n_v vs 5) 8)) (w_fi ws (n_v vs 1) 17) (w_fi ws (n_v vs 1) 19) (w_ei ws (w_ar ws (n_v vs 1) 2)) (w_ei ws (w_ar ws (n_v vs 1) 5)) (w_fi ws (n_v vs 1) 18) (w_fi ws (n_v vs 1) 20) (w_fi ws (n_v vs 5) 0) (w_fi ws (n_v vs 5) 1) k2 k3 k13 k17 k18 d0 d1 (shm_344 f0) (shm_1491 f10) (shm_386 f11) (shm_387 f12) kz_1_18 kz_1_20 kz_5_0 kz_5_1)⟩
  refine ⟨(fun _ h => (by cases h)), [], trivial, ?_, (fun _ h => (by cases h))⟩
  rw [List.append_nil]
  exact List.forall_mem_cons.mpr ⟨⟨show (20 : Nat) < 100 from by decide, nf0⟩, (fun _ h => (by cases h))⟩
set_option maxHeartbeats 4000000 in
theorem vc_Ho_drawLine_14_0 (x2 : Int) (x3 : Int) (x6 : Int) (x9 : Int) (x13 : Int) (x14 : Int) (x17 : Int) (x18 : Int) (y_0o1 : Int → Int) (bends_0o1 : Int → Int) (bendY_0o1 : Int → Int) (tail_0o5 : Int → Int) (head_0o5 : Int → Int) (leastX_0o1 : Int) (mostX_0o1 : Int) (x_0o1 : Int → Int) (bendX_0o1 : Int → Int) (leastY_0o1 : Int) (mostY_0o1 : Int) (nodes_0o5 : Int) (edges_0o5 : Int) (k2 : 0 ≤ x2 ∧ x2 ≤ 47) (k3 : 1 ≤ x3 ∧ x3 ≤ 23) (k13 : 2 ≤ x13 ∧ x13 ≤ 24) (k17 : 2 ≤ x17 ∧ x17 ≤ 24) (k18 : (-41000000) ≤ x18 ∧ x18 ≤ 1001000000) (d0 : x3 + 1 ≤ x17 ∧ x17 ≤ x3 + 1) (d1 : x3 + 1 ≤ x13 ∧ x13 ≤ x3 + 1) (f0 : PTY (y_0o1) (bends_0o1) (bendY_0o1) (tail_0o5) (head_0o5) (x2) (x17) (x18)) (f10 : MSY (leastY_0o1) (mostY_0o1) (nodes_0o5) (edges_0o5) (y_0o1) (bends_0o1) (bendY_0o1)) (f11 : GKE (nodes_0o5) (edges_0o5) (tail_0o5) (head_0o5)) (f12 : (0 ≤ x2) ∧ ((x2 + 1) ≤ edges_0o5)) (kz_1_18 : (-41000000) ≤ leastY_0o1 ∧ leastY_0o1 ≤ 690000000) (kz_1_20 : (-40000000) ≤ mostY_0o1 ∧ mostY_0o1 ≤ 1001000000) (kz_5_0 : 0 ≤ nodes_0o5 ∧ nodes_0o5 ≤ 24) (kz_5_1 : 0 ≤ edges_0o5 ∧ edges_0o5 ≤ 48) : (leastY_0o1 ≤ x18) ∧ (x18 ≤ mostY_0o1) := by
  first
    | omega
    | assumption
    | (have h := ptx_in (an := x6) (show MSX leastX_0o1 mostX_0o1 nodes_0o5 edges_0o5 x_0o1 bends_0o1 bendX_0o1 by assumption) ‹GKE _ _ _ _› (show PTX x_0o1 bends_0o1 bendX_0o1 tail_0o5 head_0o5 _ _ x6 by assumption) (by omega) (by omega) (by omega)
       omega)
    | (have h := ptx_in (an := x14) (show MSX leastX_0o1 mostX_0o1 nodes_0o5 edges_0o5 x_0o1 bends_0o1 bendX_0o1 by assumption) ‹GKE _ _ _ _› (show PTX x_0o1 bends_0o1 bendX_0o1 tail_0o5 head_0o5 _ _ x14 by assumption) (by omega) (by omega) (by omega)
       omega)
    | (have h := ptx_in (an := x9) (show MSX leastY_0o1 mostY_0o1 nodes_0o5 edges_0o5 y_0o1 bends_0o1 bendY_0o1 by assumption) ‹GKE _ _ _ _› (show PTX y_0o1 bends_0o1 bendY_0o1 tail_0o5 head_0o5 _ _ x9 by assumption) (by omega) (by omega) (by omega)
       omega)
    | (have h := ptx_in (an := x18) (show MSX leastY_0o1 mostY_0o1 nodes_0o5 edges_0o5 y_0o1 bends_0o1 bendY_0o1 by assumption) ‹GKE _ _ _ _› (show PTX y_0o1 bends_0o1 bendY_0o1 tail_0o5 head_0o5 _ _ x18 by assumption) (by omega) (by omega) (by omega)
       omega)
  
def o_Ho_drawLine_14 : or_T := (63, 19, [(1, (2, 0, 0, [0])), (2, (0, 0, 47, [])), (3, (0, 1, 23, [])), (5, (2, 0, 0, [3])), (6, (0, -40000000, 690000000, [])), (9, (0, -41000000, 1001000000, [])), (12, (0, 1, 1, [])), (13, (0, 2, 24, [])), (14, (0, -41000000, 1001000000, [])), (16, (0, 1, 1, [])), (17, (0, 2, 24, [])), (18, (0, -41000000, 1001000000, []))], [(20, [1, 5, 2, 17, 18], [60, 0, 5, 940, 3, 4, 6, 1007, 1008]), (1, [17, 3, 16], []), (20, [1, 14], [50, 2, 0, 17, 19, 2, 7, 0, 3, 2, 0, 17, 1, 1, 0, 2, 1, 1, 2, 0, 19]), (20, [1, 5, 2, 13, 14], [60, 0, 5, 933, 2, 4, 5, 1007, 1008]), (1, [13, 3, 12], []), (20, [1, 9], [50, 2, 0, 18, 20, 2, 7, 0, 3, 2, 0, 18, 1, 1, 0, 2, 1, 1, 2, 0, 20]), (20, [1, 5, 2, 3, 9], [60, 0, 5, 940, 3, 4, 6, 1007, 1008]), (20, [1, 6], [50, 2, 0, 17, 19, 2, 7, 0, 3, 2, 0, 17, 1, 1, 0, 2, 1, 1, 2, 0, 19]), (20, [1, 5, 2, 3, 6], [60, 0, 5, 933, 2, 4, 5, 1007, 1008]), (20, [1, 5], [60, 4, 3, 932, 17, 19, 1000, 1001, 2, 4, 5]), (20, [1, 5], [60, 4, 3, 939, 18, 20, 1000, 1001, 3, 4, 6]), (20, [5], [60, 2, 2, 596, 0, 1, 7, 8]), (20, [2, 5], [50, 1, 0, 1001, 2, 6, 0, 2, 0, 0, 1, 0, 0, 6, 4, 2, 1, 0, 0, 1, 2, 1, 1]), (20, [3], [50, 0, 0, 0, 2, 0, 0, 1, 0])], [], [], [(20, [1, 18], [50, 2, 0, 18, 20, 2, 7, 0, 3, 2, 0, 18, 1, 1, 0, 2, 1, 1, 2, 0, 20])], [], [(17, 3, 1, 1), (13, 3, 1, 1)])
theorem oo_Ho_drawLine_14 {kA : Nat → ClassId} : or_ok PRD kA GG o_Ho_drawLine_14 := by
  refine or_mk fun A ta ws vs hD hth hl => ?_
  intro t1 r1 t2 k2 t3 k3 t5 r5 t6 k6 t9 k9 t12 k12 t13 k13 t14 k14 t16 k16 t17 k17 t18 k18 d0 d1 f0 f1 f2 f3 f4 f5 f6 f7 f8 f9 f10 f11 f12 f13
  have kz_1_18 := fdq_200 hD hth r1
  have kz_1_20 := fdq_201 hD hth r1
  have kz_5_0 := fdq_21 hD hth r5
  have kz_5_1 := fdq_30 hD hth r5
  have nf0 : fc_1 PRD (20, [1, 18], [50, 2, 0, 18, 20, 2, 7, 0, 3, 2, 0, 18, 1, 1, 0, 2, 1, 1, 2, 0, 20]) ws (vs) := ⟨nf_in hl rfl, sgq_800 (vc_Ho_drawLine_14_0 (v_iv (n_v vs 2)) (v_iv (n_v vs 3)) (v_iv (n_v vs 6)) (v_iv (n_v vs 9)) (v_iv (n_v vs 13)) (v_iv (n_v vs 14)) (v_iv (n_v vs 17)) (v_iv (n_v vs 18)) (w_ei ws (w_ar ws (n_v vs 1) 3)) (w_ei ws (w_ar ws (n_v vs 1) 4)) (w_ei ws (w_ar ws (n_v vs 1) 6)) (w_ei ws (w_ar ws (n_v vs 5) 7)) (w_ei ws (w_ar ws (n_v vs 5) 8)) (w_fi ws (n_v vs 1) 17) (w_fi ws (n_v vs 1) 19) (w_ei ws (w_ar ws (n_v vs 1) 2)) (w_ei ws (w_ar ws (n_v vs 1) 5)) (w_fi ws (n_v vs 1) 18) (w_fi ws (n_v vs 1) 20) (w_fi ws (n_v vs 5) 0) (w_fi ws (n_v vs 5) 1) k2 k3 k13 k17 k18 d0 d1 (shm_344 f0) (shm_1491 f10) (shm_386 f11) (shm_387 f12) kz_1_18 kz_1_20 kz_5_0 kz_5_1)⟩
  refine ⟨(fun _ h => (by cases h)), [], trivial, ?_, (fun _ h => (by cases h))⟩
  rw [List.append_nil]
  exact List.forall_mem_cons.mpr ⟨⟨show (20 : Nat) < 100 from by decide, nf0⟩, (fun _ h => (by cases h))⟩
set_option maxHeartbeats 4000000 in
theorem vc_Ho_drawLine_15_0 (x2 : Int) (x3 : Int) (x6 : Int) (x_0o1 : Int → Int) (bends_0o1 : Int → Int) (bendX_0o1 : Int → Int) (tail_0o5 : Int → Int) (head_0o5 : Int → Int) (leastX_0o1 : Int) (mostX_0o1 : Int) (nodes_0o5 : Int) (edges_0o5 : Int) (y_0o1 : Int → Int) (bendY_0o1 : Int → Int) (leastY_0o1 : Int) (mostY_0o1 : Int) (k2 : 0 ≤ x2 ∧ x2 ≤ 47) (k3 : 1 ≤ x3 ∧ x3 ≤ 24) (k6 : (-41000000) ≤ x6 ∧ x6 ≤ 1001000000) (f0 : PTX (x_0o1) (bends_0o1) (bendX_0o1) (tail_0o5) (head_0o5) (x2) (x3) (x6)) (f1 : MSX (leastX_0o1) (mostX_0o1) (nodes_0o5) (edges_0o5) (x_0o1) (bends_0o1) (bendX_0o1)) (f3 : GKE (nodes_0o5) (edges_0o5) (tail_0o5) (head_0o5)) (f4 : (0 ≤ x2) ∧ ((x2 + 1) ≤ edges_0o5)) (f5 : 0 ≤ x3) (kz_1_17 : (-41000000) ≤ leastX_0o1 ∧ leastX_0o1 ≤ 690000000) (kz_1_19 : (-40000000) ≤ mostX_0o1 ∧ mostX_0o1 ≤ 1001000000) (kz_5_0 : 0 ≤ nodes_0o5 ∧ nodes_0o5 ≤ 24) (kz_5_1 : 0 ≤ edges_0o5 ∧ edges_0o5 ≤ 48) : (leastX_0o1 ≤ x6) ∧ (x6 ≤ mostX_0o1) := by
  first
    | omega
    | assumption
    | (have h := ptx_in (an := x6) (show MSX leastX_0o1 mostX_0o1 nodes_0o5 edges_0o5 x_0o1 bends_0o1 bendX_0o1 by assumption) ‹GKE _ _ _ _› (show PTX x_0o1 bends_0o1 bendX_0o1 tail_0o5 head_0o5 _ _ x6 by assumption) (by omega) (by omega) (by omega)
       omega)
    | (have h := ptx_in (an := x14) (show MSX leastX_0o1 mostX_0o1 nodes_0o5 edges_0o5 x_0o1 bends_0o1 bendX_0o1 by assumption) ‹GKE _ _ _ _› (show PTX x_0o1 bends_0o1 bendX_0o1 tail_0o5 head_0o5 _ _ x14 by assumption) (by omega) (by omega) (by omega)
       omega)
    | (have h := ptx_in (an := x9) (show MSX leastY_0o1 mostY_0o1 nodes_0o5 edges_0o5 y_0o1 bends_0o1 bendY_0o1 by assumption) ‹GKE _ _ _ _› (show PTX y_0o1 bends_0o1 bendY_0o1 tail_0o5 head_0o5 _ _ x9 by assumption) (by omega) (by omega) (by omega)
       omega)
    | (have h := ptx_in (an := x18) (show MSX leastY_0o1 mostY_0o1 nodes_0o5 edges_0o5 y_0o1 bends_0o1 bendY_0o1 by assumption) ‹GKE _ _ _ _› (show PTX y_0o1 bends_0o1 bendY_0o1 tail_0o5 head_0o5 _ _ x18 by assumption) (by omega) (by omega) (by omega)
       omega)
  
def o_Ho_drawLine_15 : or_T := (11, 8, [(1, (2, 0, 0, [0])), (2, (0, 0, 47, [])), (3, (0, 1, 24, [])), (5, (2, 0, 0, [3])), (6, (0, -41000000, 1001000000, []))], [(20, [1, 5, 2, 3, 6], [60, 0, 5, 933, 2, 4, 5, 1007, 1008]), (20, [1, 5], [60, 4, 3, 932, 17, 19, 1000, 1001, 2, 4, 5]), (20, [1, 5], [60, 4, 3, 939, 18, 20, 1000, 1001, 3, 4, 6]), (20, [5], [60, 2, 2, 596, 0, 1, 7, 8]), (20, [2, 5], [50, 1, 0, 1001, 2, 6, 0, 2, 0, 0, 1, 0, 0, 6, 4, 2, 1, 0, 0, 1, 2, 1, 1]), (20, [3], [50, 0, 0, 0, 2, 0, 0, 1, 0])], [], [], [(20, [1, 6], [50, 2, 0, 17, 19, 2, 7, 0, 3, 2, 0, 17, 1, 1, 0, 2, 1, 1, 2, 0, 19])], [], [])
theorem oo_Ho_drawLine_15 {kA : Nat → ClassId} : or_ok PRD kA GG o_Ho_drawLine_15 := by
  refine or_mk fun A ta ws vs hD hth hl => ?_
  intro t1 r1 t2 k2 t3 k3 t5 r5 t6 k6 f0 f1 f2 f3 f4 f5
  have kz_1_17 := fdq_198 hD hth r1
  have kz_1_19 := fdq_199 hD hth r1
  have kz_5_0 := fdq_21 hD hth r5
  have kz_5_1 := fdq_30 hD hth r5
  have nf0 : fc_1 PRD (20, [1, 6], [50, 2, 0, 17, 19, 2, 7, 0, 3, 2, 0, 17, 1, 1, 0, 2, 1, 1, 2, 0, 19]) ws (vs) := ⟨nf_in hl rfl, sgq_798 (vc_Ho_drawLine_15_0 (v_iv (n_v vs 2)) (v_iv (n_v vs 3)) (v_iv (n_v vs 6)) (w_ei ws (w_ar ws (n_v vs 1) 2)) (w_ei ws (w_ar ws (n_v vs 1) 4)) (w_ei ws (w_ar ws (n_v vs 1) 5)) (w_ei ws (w_ar ws (n_v vs 5) 7)) (w_ei ws (w_ar ws (n_v vs 5) 8)) (w_fi ws (n_v vs 1) 17) (w_fi ws (n_v vs 1) 19) (w_fi ws (n_v vs 5) 0) (w_fi ws (n_v vs 5) 1) (w_ei ws (w_ar ws (n_v vs 1) 3)) (w_ei ws (w_ar ws (n_v vs 1) 6)) (w_fi ws (n_v vs 1) 18) (w_fi ws (n_v vs 1) 20) k2 k3 k6 (shm_343 f0) (shm_1490 f1) (shm_386 f3) (shm_387 f4) (shm_722 f5) kz_1_17 kz_1_19 kz_5_0 kz_5_1)⟩
  refine ⟨(fun _ h => (by cases h)), [], trivial, ?_, (fun _ h => (by cases h))⟩
  rw [List.append_nil]
  exact List.forall_mem_cons.mpr ⟨⟨show (20 : Nat) < 100 from by decide, nf0⟩, (fun _ h => (by cases h))⟩
set_option maxHeartbeats 4000000 in
theorem vc_Ho_drawLine_16_0 (x2 : Int) (x3 : Int) (x6 : Int) (x9 : Int) (y_0o1 : Int → Int) (bends_0o1 : Int → Int) (bendY_0o1 : Int → Int) (tail_0o5 : Int → Int) (head_0o5 : Int → Int) (leastX_0o1 : Int) (mostX_0o1 : Int) (x_0o1 : Int → Int) (bendX_0o1 : Int → Int) (nodes_0o5 : Int) (edges_0o5 : Int) (leastY_0o1 : Int) (mostY_0o1 : Int) (k2 : 0 ≤ x2 ∧ x2 ≤ 47) (k3 : 1 ≤ x3 ∧ x3 ≤ 24) (k9 : (-40000000) ≤ x9 ∧ x9 ≤ 690000000) (f0 : PTY (y_0o1) (bends_0o1) (bendY_0o1) (tail_0o5) (head_0o5) (x2) (x3) (x9)) (f4 : MSY (leastY_0o1) (mostY_0o1) (nodes_0o5) (edges_0o5) (y_0o1) (bends_0o1) (bendY_0o1)) (f5 : GKE (nodes_0o5) (edges_0o5) (tail_0o5) (head_0o5)) (f6 : (0 ≤ x2) ∧ ((x2 + 1) ≤ edges_0o5)) (f7 : 0 ≤ x3) (kz_1_18 : (-41000000) ≤ leastY_0o1 ∧ leastY_0o1 ≤ 690000000) (kz_1_20 : (-40000000) ≤ mostY_0o1 ∧ mostY_0o1 ≤ 1001000000) (kz_5_0 : 0 ≤ nodes_0o5 ∧ nodes_0o5 ≤ 24) (kz_5_1 : 0 ≤ edges_0o5 ∧ edges_0o5 ≤ 48) : (leastY_0o1 ≤ x9) ∧ (x9 ≤ mostY_0o1) := by
  first
    | omega
    | assumption
    | (have h := ptx_in (an := x6) (show MSX leastX_0o1 mostX_0o1 nodes_0o5 edges_0o5 x_0o1 bends_0o1 bendX_0o1 by assumption) ‹GKE _ _ _ _› (show PTX x_0o1 bends_0o1 bendX_0o1 tail_0o5 head_0o5 _ _ x6 by assumption) (by omega) (by omega) (by omega)
       omega)
    | (have h := ptx_in (an := x14) (show MSX leastX_0o1 mostX_0o1 nodes_0o5 edges_0o5 x_0o1 bends_0o1 bendX_0o1 by assumption) ‹GKE _ _ _ _› (show PTX x_0o1 bends_0o1 bendX_0o1 tail_0o5 head_0o5 _ _ x14 by assumption) (by omega) (by omega) (by omega)
       omega)
    | (have h := ptx_in (an := x9) (show MSX leastY_0o1 mostY_0o1 nodes_0o5 edges_0o5 y_0o1 bends_0o1 bendY_0o1 by assumption) ‹GKE _ _ _ _› (show PTX y_0o1 bends_0o1 bendY_0o1 tail_0o5 head_0o5 _ _ x9 by assumption) (by omega) (by omega) (by omega)
       omega)
    | (have h := ptx_in (an := x18) (show MSX leastY_0o1 mostY_0o1 nodes_0o5 edges_0o5 y_0o1 bends_0o1 bendY_0o1 by assumption) ‹GKE _ _ _ _› (show PTX y_0o1 bends_0o1 bendY_0o1 tail_0o5 head_0o5 _ _ x18 by assumption) (by omega) (by omega) (by omega)
       omega)
  
def o_Ho_drawLine_16 : or_T := (27, 11, [(1, (2, 0, 0, [0])), (2, (0, 0, 47, [])), (3, (0, 1, 24, [])), (5, (2, 0, 0, [3])), (6, (0, -41000000, 1001000000, [])), (9, (0, -40000000, 690000000, []))], [(20, [1, 5, 2, 3, 9], [60, 0, 5, 940, 3, 4, 6, 1007, 1008]), (20, [1, 6], [50, 2, 0, 17, 19, 2, 7, 0, 3, 2, 0, 17, 1, 1, 0, 2, 1, 1, 2, 0, 19]), (20, [1, 5, 2, 3, 6], [60, 0, 5, 933, 2, 4, 5, 1007, 1008]), (20, [1, 5], [60, 4, 3, 932, 17, 19, 1000, 1001, 2, 4, 5]), (20, [1, 5], [60, 4, 3, 939, 18, 20, 1000, 1001, 3, 4, 6]), (20, [5], [60, 2, 2, 596, 0, 1, 7, 8]), (20, [2, 5], [50, 1, 0, 1001, 2, 6, 0, 2, 0, 0, 1, 0, 0, 6, 4, 2, 1, 0, 0, 1, 2, 1, 1]), (20, [3], [50, 0, 0, 0, 2, 0, 0, 1, 0])], [], [], [(20, [1, 9], [50, 2, 0, 18, 20, 2, 7, 0, 3, 2, 0, 18, 1, 1, 0, 2, 1, 1, 2, 0, 20])], [], [])
theorem oo_Ho_drawLine_16 {kA : Nat → ClassId} : or_ok PRD kA GG o_Ho_drawLine_16 := by
  refine or_mk fun A ta ws vs hD hth hl => ?_
  intro t1 r1 t2 k2 t3 k3 t5 r5 t6 k6 t9 k9 f0 f1 f2 f3 f4 f5 f6 f7
  have kz_1_18 := fdq_200 hD hth r1
  have kz_1_20 := fdq_201 hD hth r1
  have kz_5_0 := fdq_21 hD hth r5
  have kz_5_1 := fdq_30 hD hth r5
  have nf0 : fc_1 PRD (20, [1, 9], [50, 2, 0, 18, 20, 2, 7, 0, 3, 2, 0, 18, 1, 1, 0, 2, 1, 1, 2, 0, 20]) ws (vs) := ⟨nf_in hl rfl, sgq_800 (vc_Ho_drawLine_16_0 (v_iv (n_v vs 2)) (v_iv (n_v vs 3)) (v_iv (n_v vs 6)) (v_iv (n_v vs 9)) (w_ei ws (w_ar ws (n_v vs 1) 3)) (w_ei ws (w_ar ws (n_v vs 1) 4)) (w_ei ws (w_ar ws (n_v vs 1) 6)) (w_ei ws (w_ar ws (n_v vs 5) 7)) (w_ei ws (w_ar ws (n_v vs 5) 8)) (w_fi ws (n_v vs 1) 17) (w_fi ws (n_v vs 1) 19) (w_ei ws (w_ar ws (n_v vs 1) 2)) (w_ei ws (w_ar ws (n_v vs 1) 5)) (w_fi ws (n_v vs 5) 0) (w_fi ws (n_v vs 5) 1) (w_fi ws (n_v vs 1) 18) (w_fi ws (n_v vs 1) 20) k2 k3 k9 (shm_344 f0) (shm_1491 f4) (shm_386 f5) (shm_387 f6) (shm_722 f7) kz_1_18 kz_1_20 kz_5_0 kz_5_1)⟩
  refine ⟨(fun _ h => (by cases h)), [], trivial, ?_, (fun _ h => (by cases h))⟩
  rw [List.append_nil]
  exact List.forall_mem_cons.mpr ⟨⟨show (20 : Nat) < 100 from by decide, nf0⟩, (fun _ h => (by cases h))⟩
set_option maxHeartbeats 4000000 in
theorem vc_Ho_drawLine_17_0 (x2 : Int) (x6 : Int) (x9 : Int) (x13 : Int) (x14 : Int) (x_0o1 : Int → Int) (bends_0o1 : Int → Int) (bendX_0o1 : Int → Int) (tail_0o5 : Int → Int) (head_0o5 : Int → Int) (leastY_0o1 : Int) (mostY_0o1 : Int) (y_0o1 : Int → Int) (bendY_0o1 : Int → Int) (leastX_0o1 : Int) (mostX_0o1 : Int) (nodes_0o5 : Int) (edges_0o5 : Int) (k2 : 0 ≤ x2 ∧ x2 ≤ 47) (k13 : 2 ≤ x13 ∧ x13 ≤ 25) (k14 : (-40000000) ≤ x14 ∧ x14 ≤ 690000000) (f0 : PTX (x_0o1) (bends_0o1) (bendX_0o1) (tail_0o5) (head_0o5) (x2) (x13) (x14)) (f6 : MSX (leastX_0o1) (mostX_0o1) (nodes_0o5) (edges_0o5) (x_0o1) (bends_0o1) (bendX_0o1)) (f8 : GKE (nodes_0o5) (edges_0o5) (tail_0o5) (head_0o5)) (f9 : (0 ≤ x2) ∧ ((x2 + 1) ≤ edges_0o5)) (kz_1_17 : (-41000000) ≤ leastX_0o1 ∧ leastX_0o1 ≤ 690000000) (kz_1_19 : (-40000000) ≤ mostX_0o1 ∧ mostX_0o1 ≤ 1001000000) (kz_5_0 : 0 ≤ nodes_0o5 ∧ nodes_0o5 ≤ 24) (kz_5_1 : 0 ≤ edges_0o5 ∧ edges_0o5 ≤ 48) : (leastX_0o1 ≤ x14) ∧ (x14 ≤ mostX_0o1) := by
  first
    | omega
    | assumption
    | (have h := ptx_in (an := x6) (show MSX leastX_0o1 mostX_0o1 nodes_0o5 edges_0o5 x_0o1 bends_0o1 bendX_0o1 by assumption) ‹GKE _ _ _ _› (show PTX x_0o1 bends_0o1 bendX_0o1 tail_0o5 head_0o5 _ _ x6 by assumption) (by omega) (by omega) (by omega)
       omega)
    | (have h := ptx_in (an := x14) (show MSX leastX_0o1 mostX_0o1 nodes_0o5 edges_0o5 x_0o1 bends_0o1 bendX_0o1 by assumption) ‹GKE _ _ _ _› (show PTX x_0o1 bends_0o1 bendX_0o1 tail_0o5 head_0o5 _ _ x14 by assumption) (by omega) (by omega) (by omega)
       omega)
    | (have h := ptx_in (an := x9) (show MSX leastY_0o1 mostY_0o1 nodes_0o5 edges_0o5 y_0o1 bends_0o1 bendY_0o1 by assumption) ‹GKE _ _ _ _› (show PTX y_0o1 bends_0o1 bendY_0o1 tail_0o5 head_0o5 _ _ x9 by assumption) (by omega) (by omega) (by omega)
       omega)
    | (have h := ptx_in (an := x18) (show MSX leastY_0o1 mostY_0o1 nodes_0o5 edges_0o5 y_0o1 bends_0o1 bendY_0o1 by assumption) ‹GKE _ _ _ _› (show PTX y_0o1 bends_0o1 bendY_0o1 tail_0o5 head_0o5 _ _ x18 by assumption) (by omega) (by omega) (by omega)
       omega)
  
def o_Ho_drawLine_17 : or_T := (45, 15, [(1, (2, 0, 0, [0])), (2, (0, 0, 47, [])), (3, (0, 1, 24, [])), (5, (2, 0, 0, [3])), (6, (0, -41000000, 1001000000, [])), (9, (0, -40000000, 690000000, [])), (12, (0, 1, 1, [])), (13, (0, 2, 25, [])), (14, (0, -40000000, 690000000, []))], [(20, [1, 5, 2, 13, 14], [60, 0, 5, 933, 2, 4, 5, 1007, 1008]), (1, [13, 3, 12], []), (20, [1, 9], [50, 2, 0, 18, 20, 2, 7, 0, 3, 2, 0, 18, 1, 1, 0, 2, 1, 1, 2, 0, 20]), (20, [1, 5, 2, 3, 9], [60, 0, 5, 940, 3, 4, 6, 1007, 1008]), (20, [1, 6], [50, 2, 0, 17, 19, 2, 7, 0, 3, 2, 0, 17, 1, 1, 0, 2, 1, 1, 2, 0, 19]), (20, [1, 5, 2, 3, 6], [60, 0, 5, 933, 2, 4, 5, 1007, 1008]), (20, [1, 5], [60, 4, 3, 932, 17, 19, 1000, 1001, 2, 4, 5]), (20, [1, 5], [60, 4, 3, 939, 18, 20, 1000, 1001, 3, 4, 6]), (20, [5], [60, 2, 2, 596, 0, 1, 7, 8]), (20, [2, 5], [50, 1, 0, 1001, 2, 6, 0, 2, 0, 0, 1, 0, 0, 6, 4, 2, 1, 0, 0, 1, 2, 1, 1]), (20, [3], [50, 0, 0, 0, 2, 0, 0, 1, 0])], [], [], [(20, [1, 14], [50, 2, 0, 17, 19, 2, 7, 0, 3, 2, 0, 17, 1, 1, 0, 2, 1, 1, 2, 0, 19])], [], [(13, 3, 1, 1)])
theorem oo_Ho_drawLine_17 {kA : Nat → ClassId} : or_ok PRD kA GG o_Ho_drawLine_17 := by
  refine or_mk fun A ta ws vs hD hth hl => ?_
  intro t1 r1 t2 k2 t3 k3 t5 r5 t6 k6 t9 k9 t12 k12 t13 k13 t14 k14 d0 f0 f1 f2 f3 f4 f5 f6 f7 f8 f9 f10
  have kz_1_17 := fdq_198 hD hth r1
  have kz_1_19 := fdq_199 hD hth r1
  have kz_5_0 := fdq_21 hD hth r5
  have kz_5_1 := fdq_30 hD hth r5
  have nf0 : fc_1 PRD (20, [1, 14], [50, 2, 0, 17, 19, 2, 7, 0, 3, 2, 0, 17, 1, 1, 0, 2, 1, 1, 2, 0, 19]) ws (vs) := ⟨nf_in hl rfl, sgq_798 (vc_Ho_drawLine_17_0 (v_iv (n_v vs 2)) (v_iv (n_v vs 6)) (v_iv (n_v vs 9)) (v_iv (n_v vs 13)) (v_iv (n_v vs 14)) (w_ei ws (w_ar ws (n_v vs 1) 2)) (w_ei ws (w_ar ws (n_v vs 1) 4)) (w_ei ws (w_ar ws (n_v vs 1) 5)) (w_ei ws (w_ar ws (n_v vs 5) 7)) (w_ei ws (w_ar ws (n_v vs 5) 8)) (w_fi ws (n_v vs 1) 18) (w_fi ws (n_v vs 1) 20) (w_ei ws (w_ar ws (n_v vs 1) 3)) (w_ei ws (w_ar ws (n_v vs 1) 6)) (w_fi ws (n_v vs 1) 17) (w_fi ws (n_v vs 1) 19) (w_fi ws (n_v vs 5) 0) (w_fi ws (n_v vs 5) 1) k2 k13 k14 (shm_343 f0) (shm_1490 f6) (shm_386 f8) (shm_387 f9) kz_1_17 kz_1_19 kz_5_0 kz_5_1)⟩
  refine ⟨(fun _ h => (by cases h)), [], trivial, ?_, (fun _ h => (by cases h))⟩
  rw [List.append_nil]
  exact List.forall_mem_cons.mpr ⟨⟨show (20 : Nat) < 100 from by decide, nf0⟩, (fun _ h => (by cases h))⟩
set_option maxHeartbeats 4000000 in
theorem vc_Ho_drawLine_18_0 (x2 : Int) (x3 : Int) (x6 : Int) (x9 : Int) (x13 : Int) (x14 : Int) (x17 : Int) (x18 : Int) (y_0o1 : Int → Int) (bends_0o1 : Int → Int) (bendY_0o1 : Int → Int) (tail_0o5 : Int → Int) (head_0o5 : Int → Int) (leastX_0o1 : Int) (mostX_0o1 : Int) (x_0o1 : Int → Int) (bendX_0o1 : Int → Int) (leastY_0o1 : Int) (mostY_0o1 : Int) (nodes_0o5 : Int) (edges_0o5 : Int) (k2 : 0 ≤ x2 ∧ x2 ≤ 47) (k3 : 1 ≤ x3 ∧ x3 ≤ 24) (k13 : 2 ≤ x13 ∧ x13 ≤ 25) (k17 : 2 ≤ x17 ∧ x17 ≤ 25) (k18 : (-40000000) ≤ x18 ∧ x18 ≤ 690000000) (d0 : x3 + 1 ≤ x17 ∧ x17 ≤ x3 + 1) (d1 : x3 + 1 ≤ x13 ∧ x13 ≤ x3 + 1) (f0 : PTY (y_0o1) (bends_0o1) (bendY_0o1) (tail_0o5) (head_0o5) (x2) (x17) (x18)) (f10 : MSY (leastY_0o1) (mostY_0o1) (nodes_0o5) (edges_0o5) (y_0o1) (bends_0o1) (bendY_0o1)) (f11 : GKE (nodes_0o5) (edges_0o5) (tail_0o5) (head_0o5)) (f12 : (0 ≤ x2) ∧ ((x2 + 1) ≤ edges_0o5)) (kz_1_18 : (-41000000) ≤ leastY_0o1 ∧ leastY_0o1 ≤ 690000000) (kz_1_20 : (-40000000) ≤ mostY_0o1 ∧ mostY_0o1 ≤ 1001000000) (kz_5_0 : 0 ≤ nodes_0o5 ∧ nodes_0o5 ≤ 24) (kz_5_1 : 0 ≤ edges_0o5 ∧ edges_0o5 ≤ 48) : (leastY_0o1 ≤ x18) ∧ (x18 ≤ mostY_0o1) := by
  first
    | omega
    | assumption
    | (have h := ptx_in (an := x6) (show MSX leastX_0o1 mostX_0o1 nodes_0o5 edges_0o5 x_0o1 bends_0o1 bendX_0o1 by assumption) ‹GKE _ _ _ _› (show PTX x_0o1 bends_0o1 bendX_0o1 tail_0o5 head_0o5 _ _ x6 by assumption) (by omega) (by omega) (by omega)
       omega)
    | (have h := ptx_in (an := x14) (show MSX leastX_0o1 mostX_0o1 nodes_0o5 edges_0o5 x_0o1 bends_0o1 bendX_0o1 by assumption) ‹GKE _ _ _ _› (show PTX x_0o1 bends_0o1 bendX_0o1 tail_0o5 head_0o5 _ _ x14 by assumption) (by omega) (by omega) (by omega)
       omega)
    | (have h := ptx_in (an := x9) (show MSX leastY_0o1 mostY_0o1 nodes_0o5 edges_0o5 y_0o1 bends_0o1 bendY_0o1 by assumption) ‹GKE _ _ _ _› (show PTX y_0o1 bends_0o1 bendY_0o1 tail_0o5 head_0o5 _ _ x9 by assumption) (by omega) (by omega) (by omega)
       omega)
    | (have h := ptx_in (an := x18) (show MSX leastY_0o1 mostY_0o1 nodes_0o5 edges_0o5 y_0o1 bends_0o1 bendY_0o1 by assumption) ‹GKE _ _ _ _› (show PTX y_0o1 bends_0o1 bendY_0o1 tail_0o5 head_0o5 _ _ x18 by assumption) (by omega) (by omega) (by omega)
       omega)
  
def o_Ho_drawLine_18 : or_T := (63, 19, [(1, (2, 0, 0, [0])), (2, (0, 0, 47, [])), (3, (0, 1, 24, [])), (5, (2, 0, 0, [3])), (6, (0, -41000000, 1001000000, [])), (9, (0, -40000000, 690000000, [])), (12, (0, 1, 1, [])), (13, (0, 2, 25, [])), (14, (0, -40000000, 690000000, [])), (16, (0, 1, 1, [])), (17, (0, 2, 25, [])), (18, (0, -40000000, 690000000, []))], [(20, [1, 5, 2, 17, 18], [60, 0, 5, 940, 3, 4, 6, 1007, 1008]), (1, [17, 3, 16], []), (20, [1, 14], [50, 2, 0, 17, 19, 2, 7, 0, 3, 2, 0, 17, 1, 1, 0, 2, 1, 1, 2, 0, 19]), (20, [1, 5, 2, 13, 14], [60, 0, 5, 933, 2, 4, 5, 1007, 1008]), (1, [13, 3, 12], []), (20, [1, 9], [50, 2, 0, 18, 20, 2, 7, 0, 3, 2, 0, 18, 1, 1, 0, 2, 1, 1, 2, 0, 20]), (20, [1, 5, 2, 3, 9], [60, 0, 5, 940, 3, 4, 6, 1007, 1008]), (20, [1, 6], [50, 2, 0, 17, 19, 2, 7, 0, 3, 2, 0, 17, 1, 1, 0, 2, 1, 1, 2, 0, 19]), (20, [1, 5, 2, 3, 6], [60, 0, 5, 933, 2, 4, 5, 1007, 1008]), (20, [1, 5], [60, 4, 3, 932, 17, 19, 1000, 1001, 2, 4, 5]), (20, [1, 5], [60, 4, 3, 939, 18, 20, 1000, 1001, 3, 4, 6]), (20, [5], [60, 2, 2, 596, 0, 1, 7, 8]), (20, [2, 5], [50, 1, 0, 1001, 2, 6, 0, 2, 0, 0, 1, 0, 0, 6, 4, 2, 1, 0, 0, 1, 2, 1, 1]), (20, [3], [50, 0, 0, 0, 2, 0, 0, 1, 0])], [], [], [(20, [1, 18], [50, 2, 0, 18, 20, 2, 7, 0, 3, 2, 0, 18, 1, 1, 0, 2, 1, 1, 2, 0, 20])], [], [(17, 3, 1, 1), (13, 3, 1, 1)])
theorem oo_Ho_drawLine_18 {kA : Nat → ClassId} : or_ok PRD kA GG o_Ho_drawLine_18 := by
  refine or_mk fun A ta ws vs hD hth hl => ?_
  intro t1 r1 t2 k2 t3 k3 t5 r5 t6 k6 t9 k9 t12 k12 t13 k13 t14 k14 t16 k16 t17 k17 t18 k18 d0 d1 f0 f1 f2 f3 f4 f5 f6 f7 f8 f9 f10 f11 f12 f13
  have kz_1_18 := fdq_200 hD hth r1
  have kz_1_20 := fdq_201 hD hth r1
  have kz_5_0 := fdq_21 hD hth r5
  have kz_5_1 := fdq_30 hD hth r5
  have nf0 : fc_1 PRD (20, [1, 18], [50, 2, 0, 18, 20, 2, 7, 0, 3, 2, 0, 18, 1, 1, 0, 2, 1, 1, 2, 0, 20]) ws (vs) := ⟨nf_in hl rfl, sgq_800 (vc_Ho_drawLine_18_0 (v_iv (n_v vs 2)) (v_iv (n_v vs 3)) (v_iv (n_v vs 6)) (v_iv (n_v vs 9)) (v_iv (n_v vs 13)) (v_iv (n_v vs 14)) (v_iv (n_v vs 17)) (v_iv (n_v vs 18)) (w_ei ws (w_ar ws (n_v vs 1) 3)) (w_ei ws (w_ar ws (n_v vs 1) 4)) (w_ei ws (w_ar ws (n_v vs 1) 6)) (w_ei ws (w_ar ws (n_v vs 5) 7)) (w_ei ws (w_ar ws (n_v vs 5) 8)) (w_fi ws (n_v vs 1) 17) (w_fi ws (n_v vs 1) 19) (w_ei ws (w_ar ws (n_v vs 1) 2)) (w_ei ws (w_ar ws (n_v vs 1) 5)) (w_fi ws (n_v vs 1) 18) (w_fi ws (n_v vs 1) 20) (w_fi ws (n_v vs 5) 0) (w_fi ws (n_v vs 5) 1) k2 k3 k13 k17 k18 d0 d1 (shm_344 f0) (shm_1491 f10) (shm_386 f11) (shm_387 f12) kz_1_18 kz_1_20 kz_5_0 kz_5_1)⟩
  refine ⟨(fun _ h => (by cases h)), [], trivial, ?_, (fun _ h => (by cases h))⟩
  rw [List.append_nil]
  exact List.forall_mem_cons.mpr ⟨⟨show (20 : Nat) < 100 from by decide, nf0⟩, (fun _ h => (by cases h))⟩
set_option maxHeartbeats 4000000 in
theorem vc_Ho_drawLine_19_0 (x2 : Int) (x3 : Int) (x6 : Int) (x9 : Int) (x14 : Int) (x17 : Int) (x18 : Int) (y_0o1 : Int → Int) (bends_0o1 : Int → Int) (bendY_0o1 : Int → Int) (tail_0o5 : Int → Int) (head_0o5 : Int → Int) (leastX_0o1 : Int) (mostX_0o1 : Int) (x_0o1 : Int → Int) (bendX_0o1 : Int → Int) (leastY_0o1 : Int) (mostY_0o1 : Int) (nodes_0o5 : Int) (edges_0o5 : Int) (k2 : 0 ≤ x2 ∧ x2 ≤ 47) (k3 : 1 ≤ x3 ∧ x3 ≤ 23) (k17 : 2 ≤ x17 ∧ x17 ≤ 24) (k18 : (-41000000) ≤ x18 ∧ x18 ≤ 1001000000) (d0 : x3 + 1 ≤ x17 ∧ x17 ≤ x3 + 1) (f0 : PTY (y_0o1) (bends_0o1) (bendY_0o1) (tail_0o5) (head_0o5) (x2) (x17) (x18)) (f10 : MSY (leastY_0o1) (mostY_0o1) (nodes_0o5) (edges_0o5) (y_0o1) (bends_0o1) (bendY_0o1)) (f11 : GKE (nodes_0o5) (edges_0o5) (tail_0o5) (head_0o5)) (f12 : (0 ≤ x2) ∧ ((x2 + 1) ≤ edges_0o5)) (kz_1_18 : (-41000000) ≤ leastY_0o1 ∧ leastY_0o1 ≤ 690000000) (kz_1_20 : (-40000000) ≤ mostY_0o1 ∧ mostY_0o1 ≤ 1001000000) (kz_5_0 : 0 ≤ nodes_0o5 ∧ nodes_0o5 ≤ 24) (kz_5_1 : 0 ≤ edges_0o5 ∧ edges_0o5 ≤ 48) : (leastY_0o1 ≤ x18) ∧ (x18 ≤ mostY_0o1) := by
  first
    | omega
    | assumption
    | (have h := ptx_in (an := x6) (show MSX leastX_0o1 mostX_0o1 nodes_0o5 edges_0o5 x_0o1 bends_0o1 bendX_0o1 by assumption) ‹GKE _ _ _ _› (show PTX x_0o1 bends_0o1 bendX_0o1 tail_0o5 head_0o5 _ _ x6 by assumption) (by omega) (by omega) (by omega)
       omega)
    | (have h := ptx_in (an := x14) (show MSX leastX_0o1 mostX_0o1 nodes_0o5 edges_0o5 x_0o1 bends_0o1 bendX_0o1 by assumption) ‹GKE _ _ _ _› (show PTX x_0o1 bends_0o1 bendX_0o1 tail_0o5 head_0o5 _ _ x14 by assumption) (by omega) (by omega) (by omega)
       omega)
    | (have h := ptx_in (an := x9) (show MSX leastY_0o1 mostY_0o1 nodes_0o5 edges_0o5 y_0o1 bends_0o1 bendY_0o1 by assumption) ‹GKE _ _ _ _› (show PTX y_0o1 bends_0o1 bendY_0o1 tail_0o5 head_0o5 _ _ x9 by assumption) (by omega) (by omega) (by omega)
       omega)
    | (have h := ptx_in (an := x18) (show MSX leastY_0o1 mostY_0o1 nodes_0o5 edges_0o5 y_0o1 bends_0o1 bendY_0o1 by assumption) ‹GKE _ _ _ _› (show PTX y_0o1 bends_0o1 bendY_0o1 tail_0o5 head_0o5 _ _ x18 by assumption) (by omega) (by omega) (by omega)
       omega)
  
def o_Ho_drawLine_19 : or_T := (63, 19, [(1, (2, 0, 0, [0])), (2, (0, 0, 47, [])), (3, (0, 1, 23, [])), (5, (2, 0, 0, [3])), (6, (0, -41000000, 1001000000, [])), (9, (0, -40000000, 690000000, [])), (12, (0, 1, 1, [])), (13, (0, 2, 25, [])), (14, (0, -40000000, 690000000, [])), (16, (0, 1, 1, [])), (17, (0, 2, 24, [])), (18, (0, -41000000, 1001000000, []))], [(20, [1, 5, 2, 17, 18], [60, 0, 5, 940, 3, 4, 6, 1007, 1008]), (1, [17, 3, 16], []), (20, [1, 14], [50, 2, 0, 17, 19, 2, 7, 0, 3, 2, 0, 17, 1, 1, 0, 2, 1, 1, 2, 0, 19]), (20, [1, 5, 2, 13, 14], [60, 0, 5, 933, 2, 4, 5, 1007, 1008]), (1, [13, 3, 12], []), (20, [1, 9], [50, 2, 0, 18, 20, 2, 7, 0, 3, 2, 0, 18, 1, 1, 0, 2, 1, 1, 2, 0, 20]), (20, [1, 5, 2, 3, 9], [60, 0, 5, 940, 3, 4, 6, 1007, 1008]), (20, [1, 6], [50, 2, 0, 17, 19, 2, 7, 0, 3, 2, 0, 17, 1, 1, 0, 2, 1, 1, 2, 0, 19]), (20, [1, 5, 2, 3, 6], [60, 0, 5, 933, 2, 4, 5, 1007, 1008]), (20, [1, 5], [60, 4, 3, 932, 17, 19, 1000, 1001, 2, 4, 5]), (20, [1, 5], [60, 4, 3, 939, 18, 20, 1000, 1001, 3, 4, 6]), (20, [5], [60, 2, 2, 596, 0, 1, 7, 8]), (20, [2, 5], [50, 1, 0, 1001, 2, 6, 0, 2, 0, 0, 1, 0, 0, 6, 4, 2, 1, 0, 0, 1, 2, 1, 1]), (20, [3], [50, 0, 0, 0, 2, 0, 0, 1, 0])], [], [], [(20, [1, 18], [50, 2, 0, 18, 20, 2, 7, 0, 3, 2, 0, 18, 1, 1, 0, 2, 1, 1, 2, 0, 20])], [], [(17, 3, 1, 1), (13, 3, 1, 1)])
theorem oo_Ho_drawLine_19 {kA : Nat → ClassId} : or_ok PRD kA GG o_Ho_drawLine_19 := by
  refine or_mk fun A ta ws vs hD hth hl => ?_
  intro t1 r1 t2 k2 t3 k3 t5 r5 t6 k6 t9 k9 t12 k12 t13 k13 t14 k14 t16 k16 t17 k17 t18 k18 d0 d1 f0 f1 f2 f3 f4 f5 f6 f7 f8 f9 f10 f11 f12 f13
  have kz_1_18 := fdq_200 hD hth r1
  have kz_1_20 := fdq_201 hD hth r1
  have kz_5_0 := fdq_21 hD hth r5
  have kz_5_1 := fdq_30 hD hth r5
  have nf0 : fc_1 PRD (20, [1, 18], [50, 2, 0, 18, 20, 2, 7, 0, 3, 2, 0, 18, 1, 1, 0, 2, 1, 1, 2, 0, 20]) ws (vs) := ⟨nf_in hl rfl, sgq_800 (vc_Ho_drawLine_19_0 (v_iv (n_v vs 2)) (v_iv (n_v vs 3)) (v_iv (n_v vs 6)) (v_iv (n_v vs 9)) (v_iv (n_v vs 14)) (v_iv (n_v vs 17)) (v_iv (n_v vs 18)) (w_ei ws (w_ar ws (n_v vs 1) 3)) (w_ei ws (w_ar ws (n_v vs 1) 4)) (w_ei ws (w_ar ws (n_v vs 1) 6)) (w_ei ws (w_ar ws (n_v vs 5) 7)) (w_ei ws (w_ar ws (n_v vs 5) 8)) (w_fi ws (n_v vs 1) 17) (w_fi ws (n_v vs 1) 19) (w_ei ws (w_ar ws (n_v vs 1) 2)) (w_ei ws (w_ar ws (n_v vs 1) 5)) (w_fi ws (n_v vs 1) 18) (w_fi ws (n_v vs 1) 20) (w_fi ws (n_v vs 5) 0) (w_fi ws (n_v vs 5) 1) k2 k3 k17 k18 d0 (shm_344 f0) (shm_1491 f10) (shm_386 f11) (shm_387 f12) kz_1_18 kz_1_20 kz_5_0 kz_5_1)⟩
  refine ⟨(fun _ h => (by cases h)), [], trivial, ?_, (fun _ h => (by cases h))⟩
  rw [List.append_nil]
  exact List.forall_mem_cons.mpr ⟨⟨show (20 : Nat) < 100 from by decide, nf0⟩, (fun _ h => (by cases h))⟩
set_option maxHeartbeats 4000000 in
theorem vc_Ho_drawLine_20_0 (x2 : Int) (x6 : Int) (x9 : Int) (x13 : Int) (x14 : Int) (x_0o1 : Int → Int) (bends_0o1 : Int → Int) (bendX_0o1 : Int → Int) (tail_0o5 : Int → Int) (head_0o5 : Int → Int) (leastY_0o1 : Int) (mostY_0o1 : Int) (y_0o1 : Int → Int) (bendY_0o1 : Int → Int) (leastX_0o1 : Int) (mostX_0o1 : Int) (nodes_0o5 : Int) (edges_0o5 : Int) (k2 : 0 ≤ x2 ∧ x2 ≤ 47) (k13 : 2 ≤ x13 ∧ x13 ≤ 24) (k14 : (-41000000) ≤ x14 ∧ x14 ≤ 1001000000) (f0 : PTX (x_0o1) (bends_0o1) (bendX_0o1) (tail_0o5) (head_0o5) (x2) (x13) (x14)) (f6 : MSX (leastX_0o1) (mostX_0o1) (nodes_0o5) (edges_0o5) (x_0o1) (bends_0o1) (bendX_0o1)) (f8 : GKE (nodes_0o5) (edges_0o5) (tail_0o5) (head_0o5)) (f9 : (0 ≤ x2) ∧ ((x2 + 1) ≤ edges_0o5)) (kz_1_17 : (-41000000) ≤ leastX_0o1 ∧ leastX_0o1 ≤ 690000000) (kz_1_19 : (-40000000) ≤ mostX_0o1 ∧ mostX_0o1 ≤ 1001000000) (kz_5_0 : 0 ≤ nodes_0o5 ∧ nodes_0o5 ≤ 24) (kz_5_1 : 0 ≤ edges_0o5 ∧ edges_0o5 ≤ 48) : (leastX_0o1 ≤ x14) ∧ (x14 ≤ mostX_0o1) := by
  first
    | omega
    | assumption
    | (have h := ptx_in (an := x6) (show MSX leastX_0o1 mostX_0o1 nodes_0o5 edges_0o5 x_0o1 bends_0o1 bendX_0o1 by assumption) ‹GKE _ _ _ _› (show PTX x_0o1 bends_0o1 bendX_0o1 tail_0o5 head_0o5 _ _ x6 by assumption) (by omega) (by omega) (by omega)
       omega)
    | (have h := ptx_in (an := x14) (show MSX leastX_0o1 mostX_0o1 nodes_0o5 edges_0o5 x_0o1 bends_0o1 bendX_0o1 by assumption) ‹GKE _ _ _ _› (show PTX x_0o1 bends_0o1 bendX_0o1 tail_0o5 head_0o5 _ _ x14 by assumption) (by omega) (by omega) (by omega)
       omega)
    | (have h := ptx_in (an := x9) (show MSX leastY_0o1 mostY_0o1 nodes_0o5 edges_0o5 y_0o1 bends_0o1 bendY_0o1 by assumption) ‹GKE _ _ _ _› (show PTX y_0o1 bends_0o1 bendY_0o1 tail_0o5 head_0o5 _ _ x9 by assumption) (by omega) (by omega) (by omega)
       omega)
    | (have h := ptx_in (an := x18) (show MSX leastY_0o1 mostY_0o1 nodes_0o5 edges_0o5 y_0o1 bends_0o1 bendY_0o1 by assumption) ‹GKE _ _ _ _› (show PTX y_0o1 bends_0o1 bendY_0o1 tail_0o5 head_0o5 _ _ x18 by assumption) (by omega) (by omega) (by omega)
       omega)
  
def o_Ho_drawLine_20 : or_T := (45, 15, [(1, (2, 0, 0, [0])), (2, (0, 0, 47, [])), (3, (0, 1, 23, [])), (5, (2, 0, 0, [3])), (6, (0, -41000000, 1001000000, [])), (9, (0, -40000000, 690000000, [])), (12, (0, 1, 1, [])), (13, (0, 2, 24, [])), (14, (0, -41000000, 1001000000, []))], [(20, [1, 5, 2, 13, 14], [60, 0, 5, 933, 2, 4, 5, 1007, 1008]), (1, [13, 3, 12], []), (20, [1, 9], [50, 2, 0, 18, 20, 2, 7, 0, 3, 2, 0, 18, 1, 1, 0, 2, 1, 1, 2, 0, 20]), (20, [1, 5, 2, 3, 9], [60, 0, 5, 940, 3, 4, 6, 1007, 1008]), (20, [1, 6], [50, 2, 0, 17, 19, 2, 7, 0, 3, 2, 0, 17, 1, 1, 0, 2, 1, 1, 2, 0, 19]), (20, [1, 5, 2, 3, 6], [60, 0, 5, 933, 2, 4, 5, 1007, 1008]), (20, [1, 5], [60, 4, 3, 932, 17, 19, 1000, 1001, 2, 4, 5]), (20, [1, 5], [60, 4, 3, 939, 18, 20, 1000, 1001, 3, 4, 6]), (20, [5], [60, 2, 2, 596, 0, 1, 7, 8]), (20, [2, 5], [50, 1, 0, 1001, 2, 6, 0, 2, 0, 0, 1, 0, 0, 6, 4, 2, 1, 0, 0, 1, 2, 1, 1]), (20, [3], [50, 0, 0, 0, 2, 0, 0, 1, 0])], [], [], [(20, [1, 14], [50, 2, 0, 17, 19, 2, 7, 0, 3, 2, 0, 17, 1, 1, 0, 2, 1, 1, 2, 0, 19])], [], [(13, 3, 1, 1)])
theorem oo_Ho_drawLine_20 {kA : Nat → ClassId} : or_ok PRD kA GG o_Ho_drawLine_20 := by
  refine or_mk fun A ta ws vs hD hth hl => ?_
  intro t1 r1 t2 k2 t3 k3 t5 r5 t6 k6 t9 k9 t12 k12 t13 k13 t14 k14 d0 f0 f1 f2 f3 f4 f5 f6 f7 f8 f9 f10
  have kz_1_17 := fdq_198 hD hth r1
  have kz_1_19 := fdq_199 hD hth r1
  have kz_5_0 := fdq_21 hD hth r5
  have kz_5_1 := fdq_30 hD hth r5
  have nf0 : fc_1 PRD (20, [1, 14], [50, 2, 0, 17, 19, 2, 7, 0, 3, 2, 0, 17, 1, 1, 0, 2, 1, 1, 2, 0, 19]) ws (vs) := ⟨nf_in hl rfl, sgq_798 (vc_Ho_drawLine_20_0 (v_iv (n_v vs 2)) (v_iv (n_v vs 6)) (v_iv (n_v vs 9)) (v_iv (n_v vs 13)) (v_iv (n_v vs 14)) (w_ei ws (w_ar ws (n_v vs 1) 2)) (w_ei ws (w_ar ws (n_v vs 1) 4)) (w_ei ws (w_ar ws (n_v vs 1) 5)) (w_ei ws (w_ar ws (n_v vs 5) 7)) (w_ei ws (w_ar ws (n_v vs 5) 8)) (w_fi ws (n_v vs 1) 18) (w_fi ws (n_v vs 1) 20) (w_ei ws (w_ar ws (n_v vs 1) 3)) (w_ei ws (w_ar ws (n_v vs 1) 6)) (w_fi ws (n_v vs 1) 17) (w_fi ws (n_v vs 1) 19) (w_fi ws (n_v vs 5) 0) (w_fi ws (n_v vs 5) 1) k2 k13 k14 (shm_343 f0) (shm_1490 f6) (shm_386 f8) (shm_387 f9) kz_1_17 kz_1_19 kz_5_0 kz_5_1)⟩
  refine ⟨(fun _ h => (by cases h)), [], trivial, ?_, (fun _ h => (by cases h))⟩
  rw [List.append_nil]
  exact List.forall_mem_cons.mpr ⟨⟨show (20 : Nat) < 100 from by decide, nf0⟩, (fun _ h => (by cases h))⟩
set_option maxHeartbeats 4000000 in
theorem vc_Ho_drawLine_21_0 (x2 : Int) (x3 : Int) (x6 : Int) (x9 : Int) (x13 : Int) (x14 : Int) (x17 : Int) (x18 : Int) (y_0o1 : Int → Int) (bends_0o1 : Int → Int) (bendY_0o1 : Int → Int) (tail_0o5 : Int → Int) (head_0o5 : Int → Int) (leastX_0o1 : Int) (mostX_0o1 : Int) (x_0o1 : Int → Int) (bendX_0o1 : Int → Int) (leastY_0o1 : Int) (mostY_0o1 : Int) (nodes_0o5 : Int) (edges_0o5 : Int) (k2 : 0 ≤ x2 ∧ x2 ≤ 47) (k3 : 1 ≤ x3 ∧ x3 ≤ 23) (k13 : 2 ≤ x13 ∧ x13 ≤ 24) (k17 : 2 ≤ x17 ∧ x17 ≤ 24) (k18 : (-40000000) ≤ x18 ∧ x18 ≤ 690000000) (d0 : x3 + 1 ≤ x17 ∧ x17 ≤ x3 + 1) (d1 : x3 + 1 ≤ x13 ∧ x13 ≤ x3 + 1) (f0 : PTY (y_0o1) (bends_0o1) (bendY_0o1) (tail_0o5) (head_0o5) (x2) (x17) (x18)) (f10 : MSY (leastY_0o1) (mostY_0o1) (nodes_0o5) (edges_0o5) (y_0o1) (bends_0o1) (bendY_0o1)) (f11 : GKE (nodes_0o5) (edges_0o5) (tail_0o5) (head_0o5)) (f12 : (0 ≤ x2) ∧ ((x2 + 1) ≤ edges_0o5)) (kz_1_18 : (-41000000) ≤ leastY_0o1 ∧ leastY_0o1 ≤ 690000000) (kz_1_20 : (-40000000) ≤ mostY_0o1 ∧ mostY_0o1 ≤ 1001000000) (kz_5_0 : 0 ≤ nodes_0o5 ∧ nodes_0o5 ≤ 24) (kz_5_1 : 0 ≤ edges_0o5 ∧ edges_0o5 ≤ 48) : (leastY_0o1 ≤ x18) ∧ (x18 ≤ mostY_0o1) := by
  first
    | omega
    | assumption
    | (have h := ptx_in (an := x6) (show MSX leastX_0o1 mostX_0o1 nodes_0o5 edges_0o5 x_0o1 bends_0o1 bendX_0o1 by assumption) ‹GKE _ _ _ _› (show PTX x_0o1 bends_0o1 bendX_0o1 tail_0o5 head_0o5 _ _ x6 by assumption) (by omega) (by omega) (by omega)
       omega)
    | (have h := ptx_in (an := x14) (show MSX leastX_0o1 mostX_0o1 nodes_0o5 edges_0o5 x_0o1 bends_0o1 bendX_0o1 by assumption) ‹GKE _ _ _ _› (show PTX x_0o1 bends_0o1 bendX_0o1 tail_0o5 head_0o5 _ _ x14 by assumption) (by omega) (by omega) (by omega)
       omega)
    | (have h := ptx_in (an := x9) (show MSX leastY_0o1 mostY_0o1 nodes_0o5 edges_0o5 y_0o1 bends_0o1 bendY_0o1 by assumption) ‹GKE _ _ _ _› (show PTX y_0o1 bends_0o1 bendY_0o1 tail_0o5 head_0o5 _ _ x9 by assumption) (by omega) (by omega) (by omega)
       omega)
    | (have h := ptx_in (an := x18) (show MSX leastY_0o1 mostY_0o1 nodes_0o5 edges_0o5 y_0o1 bends_0o1 bendY_0o1 by assumption) ‹GKE _ _ _ _› (show PTX y_0o1 bends_0o1 bendY_0o1 tail_0o5 head_0o5 _ _ x18 by assumption) (by omega) (by omega) (by omega)
       omega)
  
def o_Ho_drawLine_21 : or_T := (63, 19, [(1, (2, 0, 0, [0])), (2, (0, 0, 47, [])), (3, (0, 1, 23, [])), (5, (2, 0, 0, [3])), (6, (0, -41000000, 1001000000, [])), (9, (0, -40000000, 690000000, [])), (12, (0, 1, 1, [])), (13, (0, 2, 24, [])), (14, (0, -41000000, 1001000000, [])), (16, (0, 1, 1, [])), (17, (0, 2, 24, [])), (18, (0, -40000000, 690000000, []))], [(20, [1, 5, 2, 17, 18], [60, 0, 5, 940, 3, 4, 6, 1007, 1008]), (1, [17, 3, 16], []), (20, [1, 14], [50, 2, 0, 17, 19, 2, 7, 0, 3, 2, 0, 17, 1, 1, 0, 2, 1, 1, 2, 0, 19]), (20, [1, 5, 2, 13, 14], [60, 0, 5, 933, 2, 4, 5, 1007, 1008]), (1, [13, 3, 12], []), (20, [1, 9], [50, 2, 0, 18, 20, 2, 7, 0, 3, 2, 0, 18, 1, 1, 0, 2, 1, 1, 2, 0, 20]), (20, [1, 5, 2, 3, 9], [60, 0, 5, 940, 3, 4, 6, 1007, 1008]), (20, [1, 6], [50, 2, 0, 17, 19, 2, 7, 0, 3, 2, 0, 17, 1, 1, 0, 2, 1, 1, 2, 0, 19]), (20, [1, 5, 2, 3, 6], [60, 0, 5, 933, 2, 4, 5, 1007, 1008]), (20, [1, 5], [60, 4, 3, 932, 17, 19, 1000, 1001, 2, 4, 5]), (20, [1, 5], [60, 4, 3, 939, 18, 20, 1000, 1001, 3, 4, 6]), (20, [5], [60, 2, 2, 596, 0, 1, 7, 8]), (20, [2, 5], [50, 1, 0, 1001, 2, 6, 0, 2, 0, 0, 1, 0, 0, 6, 4, 2, 1, 0, 0, 1, 2, 1, 1]), (20, [3], [50, 0, 0, 0, 2, 0, 0, 1, 0])], [], [], [(20, [1, 18], [50, 2, 0, 18, 20, 2, 7, 0, 3, 2, 0, 18, 1, 1, 0, 2, 1, 1, 2, 0, 20])], [], [(17, 3, 1, 1), (13, 3, 1, 1)])
theorem oo_Ho_drawLine_21 {kA : Nat → ClassId} : or_ok PRD kA GG o_Ho_drawLine_21 := by
  refine or_mk fun A ta ws vs hD hth hl => ?_
  intro t1 r1 t2 k2 t3 k3 t5 r5 t6 k6 t9 k9 t12 k12 t13 k13 t14 k14 t16 k16 t17 k17 t18 k18 d0 d1 f0 f1 f2 f3 f4 f5 f6 f7 f8 f9 f10 f11 f12 f13
  have kz_1_18 := fdq_200 hD hth r1
  have kz_1_20 := fdq_201 hD hth r1
  have kz_5_0 := fdq_21 hD hth r5
  have kz_5_1 := fdq_30 hD hth r5
  have nf0 : fc_1 PRD (20, [1, 18], [50, 2, 0, 18, 20, 2, 7, 0, 3, 2, 0, 18, 1, 1, 0, 2, 1, 1, 2, 0, 20]) ws (vs) := ⟨nf_in hl rfl, sgq_800 (vc_Ho_drawLine_21_0 (v_iv (n_v vs 2)) (v_iv (n_v vs 3)) (v_iv (n_v vs 6)) (v_iv (n_v vs 9)) (v_iv (n_v vs 13)) (v_iv (n_v vs 14)) (v_iv (n_v vs 17)) (v_iv (n_v vs 18)) (w_ei ws (w_ar ws (n_v vs 1) 3)) (w_ei ws (w_ar ws (n_v vs 1) 4)) (w_ei ws (w_ar ws (n_v vs 1) 6)) (w_ei ws (w_ar ws (n_v vs 5) 7)) (w_ei ws (w_ar ws (n_v vs 5) 8)) (w_fi ws (n_v vs 1) 17) (w_fi ws (n_v vs 1) 19) (w_ei ws (w_ar ws (n_v vs 1) 2)) (w_ei ws (w_ar ws (n_v vs 1) 5)) (w_fi ws (n_v vs 1) 18) (w_fi ws (n_v vs 1) 20) (w_fi ws (n_v vs 5) 0) (w_fi ws (n_v vs 5) 1) k2 k3 k13 k17 k18 d0 d1 (shm_344 f0) (shm_1491 f10) (shm_386 f11) (shm_387 f12) kz_1_18 kz_1_20 kz_5_0 kz_5_1)⟩
  refine ⟨(fun _ h => (by cases h)), [], trivial, ?_, (fun _ h => (by cases h))⟩
  rw [List.append_nil]
  exact List.forall_mem_cons.mpr ⟨⟨show (20 : Nat) < 100 from by decide, nf0⟩, (fun _ h => (by cases h))⟩
set_option maxHeartbeats 4000000 in
theorem vc_Ho_drawLine_22_0 (x2 : Int) (x3 : Int) (x6 : Int) (x9 : Int) (x13 : Int) (x14 : Int) (x17 : Int) (x18 : Int) (y_0o1 : Int → Int) (bends_0o1 : Int → Int) (bendY_0o1 : Int → Int) (tail_0o5 : Int → Int) (head_0o5 : Int → Int) (leastX_0o1 : Int) (mostX_0o1 : Int) (x_0o1 : Int → Int) (bendX_0o1 : Int → Int) (leastY_0o1 : Int) (mostY_0o1 : Int) (nodes_0o5 : Int) (edges_0o5 : Int) (k2 : 0 ≤ x2 ∧ x2 ≤ 47) (k3 : 1 ≤ x3 ∧ x3 ≤ 23) (k13 : 2 ≤ x13 ∧ x13 ≤ 24) (k17 : 2 ≤ x17 ∧ x17 ≤ 24) (k18 : (-41000000) ≤ x18 ∧ x18 ≤ 1001000000) (d0 : x3 + 1 ≤ x17 ∧ x17 ≤ x3 + 1) (d1 : x3 + 1 ≤ x13 ∧ x13 ≤ x3 + 1) (f0 : PTY (y_0o1) (bends_0o1) (bendY_0o1) (tail_0o5) (head_0o5) (x2) (x17) (x18)) (f10 : MSY (leastY_0o1) (mostY_0o1) (nodes_0o5) (edges_0o5) (y_0o1) (bends_0o1) (bendY_0o1)) (f11 : GKE (nodes_0o5) (edges_0o5) (tail_0o5) (head_0o5)) (f12 : (0 ≤ x2) ∧ ((x2 + 1) ≤ edges_0o5)) (kz_1_18 : (-41000000) ≤ leastY_0o1 ∧ leastY_0o1 ≤ 690000000) (kz_1_20 : (-40000000) ≤ mostY_0o1 ∧ mostY_0o1 ≤ 1001000000) (kz_5_0 : 0 ≤ nodes_0o5 ∧ nodes_0o5 ≤ 24) (kz_5_1 : 0 ≤ edges_0o5 ∧ edges_0o5 ≤ 48) : (leastY_0o1 ≤ x18) ∧ (x18 ≤ mostY_0o1) := by
  first
    | omega
    | assumption
    | (have h := ptx_in (an := x6) (show MSX leastX_0o1 mostX_0o1 nodes_0o5 edges_0o5 x_0o1 bends_0o1 bendX_0o1 by assumption) ‹GKE _ _ _ _› (show PTX x_0o1 bends_0o1 bendX_0o1 tail_0o5 head_0o5 _ _ x6 by assumption) (by omega) (by omega) (by omega)
       omega)
    | (have h := ptx_in (an := x14) (show MSX leastX_0o1 mostX_0o1 nodes_0o5 edges_0o5 x_0o1 bends_0o1 bendX_0o1 by assumption) ‹GKE _ _ _ _› (show PTX x_0o1 bends_0o1 bendX_0o1 tail_0o5 head_0o5 _ _ x14 by assumption) (by omega) (by omega) (by omega)
       omega)
    | (have h := ptx_in (an := x9) (show MSX leastY_0o1 mostY_0o1 nodes_0o5 edges_0o5 y_0o1 bends_0o1 bendY_0o1 by assumption) ‹GKE _ _ _ _› (show PTX y_0o1 bends_0o1 bendY_0o1 tail_0o5 head_0o5 _ _ x9 by assumption) (by omega) (by omega) (by omega)
       omega)
    | (have h := ptx_in (an := x18) (show MSX leastY_0o1 mostY_0o1 nodes_0o5 edges_0o5 y_0o1 bends_0o1 bendY_0o1 by assumption) ‹GKE _ _ _ _› (show PTX y_0o1 bends_0o1 bendY_0o1 tail_0o5 head_0o5 _ _ x18 by assumption) (by omega) (by omega) (by omega)
       omega)
  
def o_Ho_drawLine_22 : or_T := (63, 19, [(1, (2, 0, 0, [0])), (2, (0, 0, 47, [])), (3, (0, 1, 23, [])), (5, (2, 0, 0, [3])), (6, (0, -41000000, 1001000000, [])), (9, (0, -40000000, 690000000, [])), (12, (0, 1, 1, [])), (13, (0, 2, 24, [])), (14, (0, -41000000, 1001000000, [])), (16, (0, 1, 1, [])), (17, (0, 2, 24, [])), (18, (0, -41000000, 1001000000, []))], [(20, [1, 5, 2, 17, 18], [60, 0, 5, 940, 3, 4, 6, 1007, 1008]), (1, [17, 3, 16], []), (20, [1, 14], [50, 2, 0, 17, 19, 2, 7, 0, 3, 2, 0, 17, 1, 1, 0, 2, 1, 1, 2, 0, 19]), (20, [1, 5, 2, 13, 14], [60, 0, 5, 933, 2, 4, 5, 1007, 1008]), (1, [13, 3, 12], []), (20, [1, 9], [50, 2, 0, 18, 20, 2, 7, 0, 3, 2, 0, 18, 1, 1, 0, 2, 1, 1, 2, 0, 20]), (20, [1, 5, 2, 3, 9], [60, 0, 5, 940, 3, 4, 6, 1007, 1008]), (20, [1, 6], [50, 2, 0, 17, 19, 2, 7, 0, 3, 2, 0, 17, 1, 1, 0, 2, 1, 1, 2, 0, 19]), (20, [1, 5, 2, 3, 6], [60, 0, 5, 933, 2, 4, 5, 1007, 1008]), (20, [1, 5], [60, 4, 3, 932, 17, 19, 1000, 1001, 2, 4, 5]), (20, [1, 5], [60, 4, 3, 939, 18, 20, 1000, 1001, 3, 4, 6]), (20, [5], [60, 2, 2, 596, 0, 1, 7, 8]), (20, [2, 5], [50, 1, 0, 1001, 2, 6, 0, 2, 0, 0, 1, 0, 0, 6, 4, 2, 1, 0, 0, 1, 2, 1, 1]), (20, [3], [50, 0, 0, 0, 2, 0, 0, 1, 0])], [], [], [(20, [1, 18], [50, 2, 0, 18, 20, 2, 7, 0, 3, 2, 0, 18, 1, 1, 0, 2, 1, 1, 2, 0, 20])], [], [(17, 3, 1, 1), (13, 3, 1, 1)])
theorem oo_Ho_drawLine_22 {kA : Nat → ClassId} : or_ok PRD kA GG o_Ho_drawLine_22 := by
  refine or_mk fun A ta ws vs hD hth hl => ?_
  intro t1 r1 t2 k2 t3 k3 t5 r5 t6 k6 t9 k9 t12 k12 t13 k13 t14 k14 t16 k16 t17 k17 t18 k18 d0 d1 f0 f1 f2 f3 f4 f5 f6 f7 f8 f9 f10 f11 f12 f13
  have kz_1_18 := fdq_200 hD hth r1
  have kz_1_20 := fdq_201 hD hth r1
  have kz_5_0 := fdq_21 hD hth r5
  have kz_5_1 := fdq_30 hD hth r5
  have nf0 : fc_1 PRD (20, [1, 18], [50, 2, 0, 18, 20, 2, 7, 0, 3, 2, 0, 18, 1, 1, 0, 2, 1, 1, 2, 0, 20]) ws (vs) := ⟨nf_in hl rfl, sgq_800 (vc_Ho_drawLine_22_0 (v_iv (n_v vs 2)) (v_iv (n_v vs 3)) (v_iv (n_v vs 6)) (v_iv (n_v vs 9)) (v_iv (n_v vs 13)) (v_iv (n_v vs 14)) (v_iv (n_v vs 17)) (v_iv (n_v vs 18)) (w_ei ws (w_ar ws (n_v vs 1) 3)) (w_ei ws (w_ar ws (n_v vs 1) 4)) (w_ei ws (w_ar ws (n_v vs 1) 6)) (w_ei ws (w_ar ws (n_v vs 5) 7)) (w_ei ws (w_ar ws (n_v vs 5) 8)) (w_fi ws (n_v vs 1) 17) (w_fi ws (n_v vs 1) 19) (w_ei ws (w_ar ws (n_v vs 1) 2)) (w_ei ws (w_ar ws (n_v vs 1) 5)) (w_fi ws (n_v vs 1) 18) (w_fi ws (n_v vs 1) 20) (w_fi ws (n_v vs 5) 0) (w_fi ws (n_v vs 5) 1) k2 k3 k13 k17 k18 d0 d1 (shm_344 f0) (shm_1491 f10) (shm_386 f11) (shm_387 f12) kz_1_18 kz_1_20 kz_5_0 kz_5_1)⟩
  refine ⟨(fun _ h => (by cases h)), [], trivial, ?_, (fun _ h => (by cases h))⟩
  rw [List.append_nil]
  exact List.forall_mem_cons.mpr ⟨⟨show (20 : Nat) < 100 from by decide, nf0⟩, (fun _ h => (by cases h))⟩
set_option maxHeartbeats 4000000 in
theorem vc_Ho_drawLine_23_0 (x2 : Int) (x3 : Int) (x6 : Int) (x9 : Int) (y_0o1 : Int → Int) (bends_0o1 : Int → Int) (bendY_0o1 : Int → Int) (tail_0o5 : Int → Int) (head_0o5 : Int → Int) (leastX_0o1 : Int) (mostX_0o1 : Int) (x_0o1 : Int → Int) (bendX_0o1 : Int → Int) (nodes_0o5 : Int) (edges_0o5 : Int) (leastY_0o1 : Int) (mostY_0o1 : Int) (k2 : 0 ≤ x2 ∧ x2 ≤ 47) (k3 : 1 ≤ x3 ∧ x3 ≤ 24) (k9 : (-41000000) ≤ x9 ∧ x9 ≤ 1001000000) (f0 : PTY (y_0o1) (bends_0o1) (bendY_0o1) (tail_0o5) (head_0o5) (x2) (x3) (x9)) (f4 : MSY (leastY_0o1) (mostY_0o1) (nodes_0o5) (edges_0o5) (y_0o1) (bends_0o1) (bendY_0o1)) (f5 : GKE (nodes_0o5) (edges_0o5) (tail_0o5) (head_0o5)) (f6 : (0 ≤ x2) ∧ ((x2 + 1) ≤ edges_0o5)) (f7 : 0 ≤ x3) (kz_1_18 : (-41000000) ≤ leastY_0o1 ∧ leastY_0o1 ≤ 690000000) (kz_1_20 : (-40000000) ≤ mostY_0o1 ∧ mostY_0o1 ≤ 1001000000) (kz_5_0 : 0 ≤ nodes_0o5 ∧ nodes_0o5 ≤ 24) (kz_5_1 : 0 ≤ edges_0o5 ∧ edges_0o5 ≤ 48) : (leastY_0o1 ≤ x9) ∧ (x9 ≤ mostY_0o1) := by
  first
    | omega
    | assumption
    | (have h := ptx_in (an := x6) (show MSX leastX_0o1 mostX_0o1 nodes_0o5 edges_0o5 x_0o1 bends_0o1 bendX_0o1 by assumption) ‹GKE _ _ _ _› (show PTX x_0o1 bends_0o1 bendX_0o1 tail_0o5 head_0o5 _ _ x6 by assumption) (by omega) (by omega) (by omega)
       omega)
    | (have h := ptx_in (an := x14) (show MSX leastX_0o1 mostX_0o1 nodes_0o5 edges_0o5 x_0o1 bends_0o1 bendX_0o1 by assumption) ‹GKE _ _ _ _› (show PTX x_0o1 bends_0o1 bendX_0o1 tail_0o5 head_0o5 _ _ x14 by assumption) (by omega) (by omega) (by omega)
       omega)
    | (have h := ptx_in (an := x9) (show MSX leastY_0o1 mostY_0o1 nodes_0o5 edges_0o5 y_0o1 bends_0o1 bendY_0o1 by assumption) ‹GKE _ _ _ _› (show PTX y_0o1 bends_0o1 bendY_0o1 tail_0o5 head_0o5 _ _ x9 by assumption) (by omega) (by omega) (by omega)
       omega)
    | (have h := ptx_in (an := x18) (show MSX leastY_0o1 mostY_0o1 nodes_0o5 edges_0o5 y_0o1 bends_0o1 bendY_0o1 by assumption) ‹GKE _ _ _ _› (show PTX y_0o1 bends_0o1 bendY_0o1 tail_0o5 head_0o5 _ _ x18 by assumption) (by omega) (by omega) (by omega)
       omega)
  
def o_Ho_drawLine_23 : or_T := (27, 11, [(1, (2, 0, 0, [0])), (2, (0, 0, 47, [])), (3, (0, 1, 24, [])), (5, (2, 0, 0, [3])), (6, (0, -41000000, 1001000000, [])), (9, (0, -41000000, 1001000000, []))], [(20, [1, 5, 2, 3, 9], [60, 0, 5, 940, 3, 4, 6, 1007, 1008]), (20, [1, 6], [50, 2, 0, 17, 19, 2, 7, 0, 3, 2, 0, 17, 1, 1, 0, 2, 1, 1, 2, 0, 19]), (20, [1, 5, 2, 3, 6], [60, 0, 5, 933, 2, 4, 5, 1007, 1008]), (20, [1, 5], [60, 4, 3, 932, 17, 19, 1000, 1001, 2, 4, 5]), (20, [1, 5], [60, 4, 3, 939, 18, 20, 1000, 1001, 3, 4, 6]), (20, [5], [60, 2, 2, 596, 0, 1, 7, 8]), (20, [2, 5], [50, 1, 0, 1001, 2, 6, 0, 2, 0, 0, 1, 0, 0, 6, 4, 2, 1, 0, 0, 1, 2, 1, 1]), (20, [3], [50, 0, 0, 0, 2, 0, 0, 1, 0])], [], [], [(20, [1, 9], [50, 2, 0, 18, 20, 2, 7, 0, 3, 2, 0, 18, 1, 1, 0, 2, 1, 1, 2, 0, 20])], [], [])
theorem oo_Ho_drawLine_23 {kA : Nat → ClassId} : or_ok PRD kA GG o_Ho_drawLine_23 := by
  refine or_mk fun A ta ws vs hD hth hl => ?_
  intro t1 r1 t2 k2 t3 k3 t5 r5 t6 k6 t9 k9 f0 f1 f2 f3 f4 f5 f6 f7
  have kz_1_18 := fdq_200 hD hth r1
  have kz_1_20 := fdq_201 hD hth r1
  have kz_5_0 := fdq_21 hD hth r5
  have kz_5_1 := fdq_30 hD hth r5
  have nf0 : fc_1 PRD (20, [1, 9], [50, 2, 0, 18, 20, 2, 7, 0, 3, 2, 0, 18, 1, 1, 0, 2, 1, 1, 2, 0, 20]) ws (vs) := ⟨nf_in hl rfl, sgq_800 (vc_Ho_drawLine_23_0 (v_iv (n_v vs 2)) (v_iv (n_v vs 3)) (v_iv (n_v vs 6)) (v_iv (n_v vs 9)) (w_ei ws (w_ar ws (n_v vs 1) 3)) (w_ei ws (w_ar ws (n_v vs 1) 4)) (w_ei ws (w_ar ws (n_v vs 1) 6)) (w_ei ws (w_ar ws (n_v vs 5) 7)) (w_ei ws (w_ar ws (n_v vs 5) 8)) (w_fi ws (n_v vs 1) 17) (w_fi ws (n_v vs 1) 19) (w_ei ws (w_ar ws (n_v vs 1) 2)) (w_ei ws (w_ar ws (n_v vs 1) 5)) (w_fi ws (n_v vs 5) 0) (w_fi ws (n_v vs 5) 1) (w_fi ws (n_v vs 1) 18) (w_fi ws (n_v vs 1) 20) k2 k3 k9 (shm_344 f0) (shm_1491 f4) (shm_386 f5) (shm_387 f6) (shm_722 f7) kz_1_18 kz_1_20 kz_5_0 kz_5_1)⟩
  refine ⟨(fun _ h => (by cases h)), [], trivial, ?_, (fun _ h => (by cases h))⟩
  rw [List.append_nil]
  exact List.forall_mem_cons.mpr ⟨⟨show (20 : Nat) < 100 from by decide, nf0⟩, (fun _ h => (by cases h))⟩
set_option maxHeartbeats 4000000 in
theorem vc_Ho_drawLine_24_0 (x2 : Int) (x6 : Int) (x9 : Int) (x13 : Int) (x14 : Int) (x_0o1 : Int → Int) (bends_0o1 : Int → Int) (bendX_0o1 : Int → Int) (tail_0o5 : Int → Int) (head_0o5 : Int → Int) (leastY_0o1 : Int) (mostY_0o1 : Int) (y_0o1 : Int → Int) (bendY_0o1 : Int → Int) (leastX_0o1 : Int) (mostX_0o1 : Int) (nodes_0o5 : Int) (edges_0o5 : Int) (k2 : 0 ≤ x2 ∧ x2 ≤ 47) (k13 : 2 ≤ x13 ∧ x13 ≤ 25) (k14 : (-40000000) ≤ x14 ∧ x14 ≤ 690000000) (f0 : PTX (x_0o1) (bends_0o1) (bendX_0o1) (tail_0o5) (head_0o5) (x2) (x13) (x14)) (f6 : MSX (leastX_0o1) (mostX_0o1) (nodes_0o5) (edges_0o5) (x_0o1) (bends_0o1) (bendX_0o1)) (f8 : GKE (nodes_0o5) (edges_0o5) (tail_0o5) (head_0o5)) (f9 : (0 ≤ x2) ∧ ((x2 + 1) ≤ edges_0o5)) (kz_1_17 : (-41000000) ≤ leastX_0o1 ∧ leastX_0o1 ≤ 690000000) (kz_1_19 : (-40000000) ≤ mostX_0o1 ∧ mostX_0o1 ≤ 1001000000) (kz_5_0 : 0 ≤ nodes_0o5 ∧ nodes_0o5 ≤ 24) (kz_5_1 : 0 ≤ edges_0o5 ∧ edges_0o5 ≤ 48) : (leastX_0o1 ≤ x14) ∧ (x14 ≤ mostX_0o1) := by
  first
    | omega
    | assumption
    | (have h := ptx_in (an := x6) (show MSX leastX_0o1 mostX_0o1 nodes_0o5 edges_0o5 x_0o1 bends_0o1 bendX_0o1 by assumption) ‹GKE _ _ _ _› (show PTX x_0o1 bends_0o1 bendX_0o1 tail_0o5 head_0o5 _ _ x6 by assumption) (by omega) (by omega) (by omega)
       omega)
    | (have h := ptx_in (an := x14) (show MSX leastX_0o1 mostX_0o1 nodes_0o5 edges_0o5 x_0o1 bends_0o1 bendX_0o1 by assumption) ‹GKE _ _ _ _› (show PTX x_0o1 bends_0o1 bendX_0o1 tail_0o5 head_0o5 _ _ x14 by assumption) (by omega) (by omega) (by omega)
       omega)
    | (have h := ptx_in (an := x9) (show MSX leastY_0o1 mostY_0o1 nodes_0o5 edges_0o5 y_0o1 bends_0o1 bendY_0o1 by assumption) ‹GKE _ _ _ _› (show PTX y_0o1 bends_0o1 bendY_0o1 tail_0o5 head_0o5 _ _ x9 by assumption) (by omega) (by omega) (by omega)
       omega)
    | (have h := ptx_in (an := x18) (show MSX leastY_0o1 mostY_0o1 nodes_0o5 edges_0o5 y_0o1 bends_0o1 bendY_0o1 by assumption) ‹GKE _ _ _ _› (show PTX y_0o1 bends_0o1 bendY_0o1 tail_0o5 head_0o5 _ _ x18 by assumption) (by omega) (by omega) (by omega)
       omega)
  
def o_Ho_drawLine_24 : or_T := (45, 15, [(1, (2, 0, 0, [0])), (2, (0, 0, 47, [])), (3, (0, 1, 24, [])), (5, (2, 0, 0, [3])), (6, (0, -41000000, 1001000000, [])), (9, (0, -41000000, 1001000000, [])), (12, (0, 1, 1, [])), (13, (0, 2, 25, [])), (14, (0, -40000000, 690000000, []))], [(20, [1, 5, 2, 13, 14], [60, 0, 5, 933, 2, 4, 5, 1007, 1008]), (1, [13, 3, 12], []), (20, [1, 9], [50, 2, 0, 18, 20, 2, 7, 0, 3, 2, 0, 18, 1, 1, 0, 2, 1, 1, 2, 0, 20]), (20, [1, 5, 2, 3, 9], [60, 0, 5, 940, 3, 4, 6, 1007, 1008]), (20, [1, 6], [50, 2, 0, 17, 19, 2, 7, 0, 3, 2, 0, 17, 1, 1, 0, 2, 1, 1, 2, 0, 19]), (20, [1, 5, 2, 3, 6], [60, 0, 5, 933, 2, 4, 5, 1007, 1008]), (20, [1, 5], [60, 4, 3, 932, 17, 19, 1000, 1001, 2, 4, 5]), (20, [1, 5], [60, 4, 3, 939, 18, 20, 1000, 1001, 3, 4, 6]), (20, [5], [60, 2, 2, 596, 0, 1, 7, 8]), (20, [2, 5], [50, 1, 0, 1001, 2, 6, 0, 2, 0, 0, 1, 0, 0, 6, 4, 2, 1, 0, 0, 1, 2, 1, 1]), (20, [3], [50, 0, 0, 0, 2, 0, 0, 1, 0])], [], [], [(20, [1, 14], [50, 2, 0, 17, 19, 2, 7, 0, 3, 2, 0, 17, 1, 1, 0, 2, 1, 1, 2, 0, 19])], [], [(13, 3, 1, 1)])
theorem oo_Ho_drawLine_24 {kA : Nat → ClassId} : or_ok PRD kA GG o_Ho_drawLine_24 := by
  refine or_mk fun A ta ws vs hD hth hl => ?_
  intro t1 r1 t2 k2 t3 k3 t5 r5 t6 k6 t9 k9 t12 k12 t13 k13 t14 k14 d0 f0 f1 f2 f3 f4 f5 f6 f7 f8 f9 f10
  have kz_1_17 := fdq_198 hD hth r1
  have kz_1_19 := fdq_199 hD hth r1
  have kz_5_0 := fdq_21 hD hth r5
  have kz_5_1 := fdq_30 hD hth r5
  have nf0 : fc_1 PRD (20, [1, 14], [50, 2, 0, 17, 19, 2, 7, 0, 3, 2, 0, 17, 1, 1, 0, 2, 1, 1, 2, 0, 19]) ws (vs) := ⟨nf_in hl rfl, sgq_798 (vc_Ho_drawLine_24_0 (v_iv (n_v vs 2)) (v_iv (n_v vs 6)) (v_iv (n_v vs 9)) (v_iv (n_v vs 13)) (v_iv (n_v vs 14)) (w_ei ws (w_ar ws (n_v vs 1) 2)) (w_ei ws (w_ar ws (n_v vs 1) 4)) (w_ei ws (w_ar ws (n_v vs 1) 5)) (w_ei ws (w_ar ws (n_v vs 5) 7)) (w_ei ws (w_ar ws (n_v vs 5) 8)) (w_fi ws (n_v vs 1) 18) (w_fi ws (n_v vs 1) 20) (w_ei ws (w_ar ws (n_v vs 1) 3)) (w_ei ws (w_ar ws (n_v vs 1) 6)) (w_fi ws (n_v vs 1) 17) (w_fi ws (n_v vs 1) 19) (w_fi ws (n_v vs 5) 0) (w_fi ws (n_v vs 5) 1) k2 k13 k14 (shm_343 f0) (shm_1490 f6) (shm_386 f8) (shm_387 f9) kz_1_17 kz_1_19 kz_5_0 kz_5_1)⟩
  refine ⟨(fun _ h => (by cases h)), [], trivial, ?_, (fun _ h => (by cases h))⟩
  rw [List.append_nil]
  exact List.forall_mem_cons.mpr ⟨⟨show (20 : Nat) < 100 from by decide, nf0⟩, (fun _ h => (by cases h))⟩
set_option maxHeartbeats 4000000 in
theorem vc_Ho_drawLine_25_0 (x2 : Int) (x3 : Int) (x6 : Int) (x9 : Int) (x13 : Int) (x14 : Int) (x17 : Int) (x18 : Int) (y_0o1 : Int → Int) (bends_0o1 : Int → Int) (bendY_0o1 : Int → Int) (tail_0o5 : Int → Int) (head_0o5 : Int → Int) (leastX_0o1 : Int) (mostX_0o1 : Int) (x_0o1 : Int → Int) (bendX_0o1 : Int → Int) (leastY_0o1 : Int) (mostY_0o1 : Int) (nodes_0o5 : Int) (edges_0o5 : Int) (k2 : 0 ≤ x2 ∧ x2 ≤ 47) (k3 : 1 ≤ x3 ∧ x3 ≤ 24) (k13 : 2 ≤ x13 ∧ x13 ≤ 25) (k17 : 2 ≤ x17 ∧ x17 ≤ 25) (k18 : (-40000000) ≤ x18 ∧ x18 ≤ 690000000) (d0 : x3 + 1 ≤ x17 ∧ x17 ≤ x3 + 1) (d1 : x3 + 1 ≤ x13 ∧ x13 ≤ x3 + 1) (f0 : PTY (y_0o1) (bends_0o1) (bendY_0o1) (tail_0o5) (head_0o5) (x2) (x17) (x18)) (f10 : MSY (leastY_0o1) (mostY_0o1) (nodes_0o5) (edges_0o5) (y_0o1) (bends_0o1) (bendY_0o1)) (f11 : GKE (nodes_0o5) (edges_0o5) (tail_0o5) (head_0o5)) (f12 : (0 ≤ x2) ∧ ((x2 + 1) ≤ edges_0o5)) (kz_1_18 : (-41000000) ≤ leastY_0o1 ∧ leastY_0o1 ≤ 690000000) (kz_1_20 : (-40000000) ≤ mostY_0o1 ∧ mostY_0o1 ≤ 1001000000) (kz_5_0 : 0 ≤ nodes_0o5 ∧ nodes_0o5 ≤ 24) (kz_5_1 : 0 ≤ edges_0o5 ∧ edges_0o5 ≤ 48) : (leastY_0o1 ≤ x18) ∧ (x18 ≤ mostY_0o1) := by
  first
    | omega
    | assumption
    | (have h := ptx_in (an := x6) (show MSX leastX_0o1 mostX_0o1 nodes_0o5 edges_0o5 x_0o1 bends_0o1 bendX_0o1 by assumption) ‹GKE _ _ _ _› (show PTX x_0o1 bends_0o1 bendX_0o1 tail_0o5 head_0o5 _ _ x6 by assumption) (by omega) (by omega) (by omega)
       omega)
    | (have h := ptx_in (an := x14) (show MSX leastX_0o1 mostX_0o1 nodes_0o5 edges_0o5 x_0o1 bends_0o1 bendX_0o1 by assumption) ‹GKE _ _ _ _› (show PTX x_0o1 bends_0o1 bendX_0o1 tail_0o5 head_0o5 _ _ x14 by assumption) (by omega) (by omega) (by omega)
       omega)
    | (have h := ptx_in (an := x9) (show MSX leastY_0o1 mostY_0o1 nodes_0o5 edges_0o5 y_0o1 bends_0o1 bendY_0o1 by assumption) ‹GKE _ _ _ _› (show PTX y_0o1 bends_0o1 bendY_0o1 tail_0o5 head_0o5 _ _ x9 by assumption) (by omega) (by omega) (by omega)
       omega)
    | (have h := ptx_in (an := x18) (show MSX leastY_0o1 mostY_0o1 nodes_0o5 edges_0o5 y_0o1 bends_0o1 bendY_0o1 by assumption) ‹GKE _ _ _ _› (show PTX y_0o1 bends_0o1 bendY_0o1 tail_0o5 head_0o5 _ _ x18 by assumption) (by omega) (by omega) (by omega)
       omega)
  
def o_Ho_drawLine_25 : or_T := (63, 19, [(1, (2, 0, 0, [0])), (2, (0, 0, 47, [])), (3, (0, 1, 24, [])), (5, (2, 0, 0, [3])), (6, (0, -41000000, 1001000000, [])), (9, (0, -41000000, 1001000000, [])), (12, (0, 1, 1, [])), (13, (0, 2, 25, [])), (14, (0, -40000000, 690000000, [])), (16, (0, 1, 1, [])), (17, (0, 2, 25, [])), (18, (0, -40000000, 690000000, []))], [(20, [1, 5, 2, 17, 18], [60, 0, 5, 940, 3, 4, 6, 1007, 1008]), (1, [17, 3, 16], []), (20, [1, 14], [50, 2, 0, 17, 19, 2, 7, 0, 3, 2, 0, 17, 1, 1, 0, 2, 1, 1, 2, 0, 19]), (20, [1, 5, 2, 13, 14], [60, 0, 5, 933, 2, 4, 5, 1007, 1008]), (1, [13, 3, 12], []), (20, [1, 9], [50, 2, 0, 18, 20, 2, 7, 0, 3, 2, 0, 18, 1, 1, 0, 2, 1, 1, 2, 0, 20]), (20, [1, 5, 2, 3, 9], [60, 0, 5, 940, 3, 4, 6, 1007, 1008]), (20, [1, 6], [50, 2, 0, 17, 19, 2, 7, 0, 3, 2, 0, 17, 1, 1, 0, 2, 1, 1, 2, 0, 19]), (20, [1, 5, 2, 3, 6], [60, 0, 5, 933, 2, 4, 5, 1007, 1008]), (20, [1, 5], [60, 4, 3, 932, 17, 19, 1000, 1001, 2, 4, 5]), (20, [1, 5], [60, 4, 3, 939, 18, 20, 1000, 1001, 3, 4, 6]), (20, [5], [60, 2, 2, 596, 0, 1, 7, 8]), (20, [2, 5], [50, 1, 0, 1001, 2, 6, 0, 2, 0, 0, 1, 0, 0, 6, 4, 2, 1, 0, 0, 1, 2, 1, 1]), (20, [3], [50, 0, 0, 0, 2, 0, 0, 1, 0])], [], [], [(20, [1, 18], [50, 2, 0, 18, 20, 2, 7, 0, 3, 2, 0, 18, 1, 1, 0, 2, 1, 1, 2, 0, 20])], [], [(17, 3, 1, 1), (13, 3, 1, 1)])
theorem oo_Ho_drawLine_25 {kA : Nat → ClassId} : or_ok PRD kA GG o_Ho_drawLine_25 := by
  refine or_mk fun A ta ws vs hD hth hl => ?_
  intro t1 r1 t2 k2 t3 k3 t5 r5 t6 k6 t9 k9 t12 k12 t13 k13 t14 k14 t16 k16 t17 k17 t18 k18 d0 d1 f0 f1 f2 f3 f4 f5 f6 f7 f8 f9 f10 f11 f12 f13
  have kz_1_18 := fdq_200 hD hth r1
  have kz_1_20 := fdq_201 hD hth r1
  have kz_5_0 := fdq_21 hD hth r5
  have kz_5_1 := fdq_30 hD hth r5
  have nf0 : fc_1 PRD (20, [1, 18], [50, 2, 0, 18, 20, 2, 7, 0, 3, 2, 0, 18, 1, 1, 0, 2, 1, 1, 2, 0, 20]) ws (vs) := ⟨nf_in hl rfl, sgq_800 (vc_Ho_drawLine_25_0 (v_iv (n_v vs 2)) (v_iv (n_v vs 3)) (v_iv (n_v vs 6)) (v_iv (n_v vs 9)) (v_iv (n_v vs 13)) (v_iv (n_v vs 14)) (v_iv (n_v vs 17)) (v_iv (n_v vs 18)) (w_ei ws (w_ar ws (n_v vs 1) 3)) (w_ei ws (w_ar ws (n_v vs 1) 4)) (w_ei ws (w_ar ws (n_v vs 1) 6)) (w_ei ws (w_ar ws (n_v vs 5) 7)) (w_ei ws (w_ar ws (n_v vs 5) 8)) (w_fi ws (n_v vs 1) 17) (w_fi ws (n_v vs 1) 19) (w_ei ws (w_ar ws (n_v vs 1) 2)) (w_ei ws (w_ar ws (n_v vs 1) 5)) (w_fi ws (n_v vs 1) 18) (w_fi ws (n_v vs 1) 20) (w_fi ws (n_v vs 5) 0) (w_fi ws (n_v vs 5) 1) k2 k3 k13 k17 k18 d0 d1 (shm_344 f0) (shm_1491 f10) (shm_386 f11) (shm_387 f12) kz_1_18 kz_1_20 kz_5_0 kz_5_1)⟩
  refine ⟨(fun _ h => (by cases h)), [], trivial, ?_, (fun _ h => (by cases h))⟩
  rw [List.append_nil]
  exact List.forall_mem_cons.mpr ⟨⟨show (20 : Nat) < 100 from by decide, nf0⟩, (fun _ h => (by cases h))⟩
set_option maxHeartbeats 4000000 in
theorem vc_Ho_drawLine_26_0 (x2 : Int) (x3 : Int) (x6 : Int) (x9 : Int) (x14 : Int) (x17 : Int) (x18 : Int) (y_0o1 : Int → Int) (bends_0o1 : Int → Int) (bendY_0o1 : Int → Int) (tail_0o5 : Int → Int) (head_0o5 : Int → Int) (leastX_0o1 : Int) (mostX_0o1 : Int) (x_0o1 : Int → Int) (bendX_0o1 : Int → Int) (leastY_0o1 : Int) (mostY_0o1 : Int) (nodes_0o5 : Int) (edges_0o5 : Int) (k2 : 0 ≤ x2 ∧ x2 ≤ 47) (k3 : 1 ≤ x3 ∧ x3 ≤ 23) (k17 : 2 ≤ x17 ∧ x17 ≤ 24) (k18 : (-41000000) ≤ x18 ∧ x18 ≤ 1001000000) (d0 : x3 + 1 ≤ x17 ∧ x17 ≤ x3 + 1) (f0 : PTY (y_0o1) (bends_0o1) (bendY_0o1) (tail_0o5) (head_0o5) (x2) (x17) (x18)) (f10 : MSY (leastY_0o1) (mostY_0o1) (nodes_0o5) (edges_0o5) (y_0o1) (bends_0o1) (bendY_0o1)) (f11 : GKE (nodes_0o5) (edges_0o5) (tail_0o5) (head_0o5)) (f12 : (0 ≤ x2) ∧ ((x2 + 1) ≤ edges_0o5)) (kz_1_18 : (-41000000) ≤ leastY_0o1 ∧ leastY_0o1 ≤ 690000000) (kz_1_20 : (-40000000) ≤ mostY_0o1 ∧ mostY_0o1 ≤ 1001000000) (kz_5_0 : 0 ≤ nodes_0o5 ∧ nodes_0o5 ≤ 24) (kz_5_1 : 0 ≤ edges_0o5 ∧ edges_0o5 ≤ 48) : (leastY_0o1 ≤ x18) ∧ (x18 ≤ mostY_0o1) := by
  first
    | omega
    | assumption
    | (have h := ptx_in (an := x6) (show MSX leastX_0o1 mostX_0o1 nodes_0o5 edges_0o5 x_0o1 bends_0o1 bendX_0o1 by assumption) ‹GKE _ _ _ _› (show PTX x_0o1 bends_0o1 bendX_0o1 tail_0o5 head_0o5 _ _ x6 by assumption) (by omega) (by omega) (by omega)
       omega)
    | (have h := ptx_in (an := x14) (show MSX leastX_0o1 mostX_0o1 nodes_0o5 edges_0o5 x_0o1 bends_0o1 bendX_0o1 by assumption) ‹GKE _ _ _ _› (show PTX x_0o1 bends_0o1 bendX_0o1 tail_0o5 head_0o5 _ _ x14 by assumption) (by omega) (by omega) (by omega)
       omega)
    | (have h := ptx_in (an := x9) (show MSX leastY_0o1 mostY_0o1 nodes_0o5 edges_0o5 y_0o1 bends_0o1 bendY_0o1 by assumption) ‹GKE _ _ _ _› (show PTX y_0o1 bends_0o1 bendY_0o1 tail_0o5 head_0o5 _ _ x9 by assumption) (by omega) (by omega) (by omega)
       omega)
    | (have h := ptx_in (an := x18) (show MSX leastY_0o1 mostY_0o1 nodes_0o5 edges_0o5 y_0o1 bends_0o1 bendY_0o1 by assumption) ‹GKE _ _ _ _› (show PTX y_0o1 bends_0o1 bendY_0o1 tail_0o5 head_0o5 _ _ x18 by assumption) (by omega) (by omega) (by omega)
       omega)
  
def o_Ho_drawLine_26 : or_T := (63, 19, [(1, (2, 0, 0, [0])), (2, (0, 0, 47, [])), (3, (0, 1, 23, [])), (5, (2, 0, 0, [3])), (6, (0, -41000000, 1001000000, [])), (9, (0, -41000000, 1001000000, [])), (12, (0, 1, 1, [])), (13, (0, 2, 25, [])), (14, (0, -40000000, 690000000, [])), (16, (0, 1, 1, [])), (17, (0, 2, 24, [])), (18, (0, -41000000, 1001000000, []))], [(20, [1, 5, 2, 17, 18], [60, 0, 5, 940, 3, 4, 6, 1007, 1008]), (1, [17, 3, 16], []), (20, [1, 14], [50, 2, 0, 17, 19, 2, 7, 0, 3, 2, 0, 17, 1, 1, 0, 2, 1, 1, 2, 0, 19]), (20, [1, 5, 2, 13, 14], [60, 0, 5, 933, 2, 4, 5, 1007, 1008]), (1, [13, 3, 12], []), (20, [1, 9], [50, 2, 0, 18, 20, 2, 7, 0, 3, 2, 0, 18, 1, 1, 0, 2, 1, 1, 2, 0, 20]), (20, [1, 5, 2, 3, 9], [60, 0, 5, 940, 3, 4, 6, 1007, 1008]), (20, [1, 6], [50, 2, 0, 17, 19, 2, 7, 0, 3, 2, 0, 17, 1, 1, 0, 2, 1, 1, 2, 0, 19]), (20, [1, 5, 2, 3, 6], [60, 0, 5, 933, 2, 4, 5, 1007, 1008]), (20, [1, 5], [60, 4, 3, 932, 17, 19, 1000, 1001, 2, 4, 5]), (20, [1, 5], [60, 4, 3, 939, 18, 20, 1000, 1001, 3, 4, 6]), (20, [5], [60, 2, 2, 596, 0, 1, 7, 8]), (20, [2, 5], [50, 1, 0, 1001, 2, 6, 0, 2, 0, 0, 1, 0, 0, 6, 4, 2, 1, 0, 0, 1, 2, 1, 1]), (20, [3], [50, 0, 0, 0, 2, 0, 0, 1, 0])], [], [], [(20, [1, 18], [50, 2, 0, 18, 20, 2, 7, 0, 3, 2, 0, 18, 1, 1, 0, 2, 1, 1, 2, 0, 20])], [], [(17, 3, 1, 1), (13, 3, 1, 1)])
theorem oo_Ho_drawLine_26 {kA : Nat → ClassId} : or_ok PRD kA GG o_Ho_drawLine_26 := by
  refine or_mk fun A ta ws vs hD hth hl => ?_
  intro t1 r1 t2 k2 t3 k3 t5 r5 t6 k6 t9 k9 t12 k12 t13 k13 t14 k14 t16 k16 t17 k17 t18 k18 d0 d1 f0 f1 f2 f3 f4 f5 f6 f7 f8 f9 f10 f11 f12 f13
  have kz_1_18 := fdq_200 hD hth r1
  have kz_1_20 := fdq_201 hD hth r1
  have kz_5_0 := fdq_21 hD hth r5
  have kz_5_1 := fdq_30 hD hth r5
  have nf0 : fc_1 PRD (20, [1, 18], [50, 2, 0, 18, 20, 2, 7, 0, 3, 2, 0, 18, 1, 1, 0, 2, 1, 1, 2, 0, 20]) ws (vs) := ⟨nf_in hl rfl, sgq_800 (vc_Ho_drawLine_26_0 (v_iv (n_v vs 2)) (v_iv (n_v vs 3)) (v_iv (n_v vs 6)) (v_iv (n_v vs 9)) (v_iv (n_v vs 14)) (v_iv (n_v vs 17)) (v_iv (n_v vs 18)) (w_ei ws (w_ar ws (n_v vs 1) 3)) (w_ei ws (w_ar ws (n_v vs 1) 4)) (w_ei ws (w_ar ws (n_v vs 1) 6)) (w_ei ws (w_ar ws (n_v vs 5) 7)) (w_ei ws (w_ar ws (n_v vs 5) 8)) (w_fi ws (n_v vs 1) 17) (w_fi ws (n_v vs 1) 19) (w_ei ws (w_ar ws (n_v vs 1) 2)) (w_ei ws (w_ar ws (n_v vs 1) 5)) (w_fi ws (n_v vs 1) 18) (w_fi ws (n_v vs 1) 20) (w_fi ws (n_v vs 5) 0) (w_fi ws (n_v vs 5) 1) k2 k3 k17 k18 d0 (shm_344 f0) (shm_1491 f10) (shm_386 f11) (shm_387 f12) kz_1_18 kz_1_20 kz_5_0 kz_5_1)⟩
  refine ⟨(fun _ h => (by cases h)), [], trivial, ?_, (fun _ h => (by cases h))⟩
  rw [List.append_nil]
  exact List.forall_mem_cons.mpr ⟨⟨show (20 : Nat) < 100 from by decide, nf0⟩, (fun _ h => (by cases h))⟩
set_option maxHeartbeats 4000000 in
theorem vc_Ho_drawLine_27_0 (x2 : Int) (x6 : Int) (x9 : Int) (x13 : Int) (x14 : Int) (x_0o1 : Int → Int) (bends_0o1 : Int → Int) (bendX_0o1 : Int → Int) (tail_0o5 : Int → Int) (head_0o5 : Int → Int) (leastY_0o1 : Int) (mostY_0o1 : Int) (y_0o1 : Int → Int) (bendY_0o1 : Int → Int) (leastX_0o1 : Int) (mostX_0o1 : Int) (nodes_0o5 : Int) (edges_0o5 : Int) (k2 : 0 ≤ x2 ∧ x2 ≤ 47) (k13 : 2 ≤ x13 ∧ x13 ≤ 24) (k14 : (-41000000) ≤ x14 ∧ x14 ≤ 1001000000) (f0 : PTX (x_0o1) (bends_0o1) (bendX_0o1) (tail_0o5) (head_0o5) (x2) (x13) (x14)) (f6 : MSX (leastX_0o1) (mostX_0o1) (nodes_0o5) (edges_0o5) (x_0o1) (bends_0o1) (bendX_0o1)) (f8 : GKE (nodes_0o5) (edges_0o5) (tail_0o5) (head_0o5)) (f9 : (0 ≤ x2) ∧ ((x2 + 1) ≤ edges_0o5)) (kz_1_17 : (-41000000) ≤ leastX_0o1 ∧ leastX_0o1 ≤ 690000000) (kz_1_19 : (-40000000) ≤ mostX_0o1 ∧ mostX_0o1 ≤ 1001000000) (kz_5_0 : 0 ≤ nodes_0o5 ∧ nodes_0o5 ≤ 24) (kz_5_1 : 0 ≤ edges_0o5 ∧ edges_0o5 ≤ 48) : (leastX_0o1 ≤ x14) ∧ (x14 ≤ mostX_0o1) := by
  first
    | omega
    | assumption
    | (have h := ptx_in (an := x6) (show MSX leastX_0o1 mostX_0o1 nodes_0o5 edges_0o5 x_0o1 bends_0o1 bendX_0o1 by assumption) ‹GKE _ _ _ _› (show PTX x_0o1 bends_0o1 bendX_0o1 tail_0o5 head_0o5 _ _ x6 by assumption) (by omega) (by omega) (by omega)
       omega)
    | (have h := ptx_in (an := x14) (show MSX leastX_0o1 mostX_0o1 nodes_0o5 edges_0o5 x_0o1 bends_0o1 bendX_0o1 by assumption) ‹GKE _ _ _ _› (show PTX x_0o1 bends_0o1 bendX_0o1 tail_0o5 head_0o5 _ _ x14 by assumption) (by omega) (by omega) (by omega)
       omega)
    | (have h := ptx_in (an := x9) (show MSX leastY_0o1 mostY_0o1 nodes_0o5 edges_0o5 y_0o1 bends_0o1 bendY_0o1 by assumption) ‹GKE _ _ _ _› (show PTX y_0o1 bends_0o1 bendY_0o1 tail_0o5 head_0o5 _ _ x9 by assumption) (by omega) (by omega) (by omega)
       omega)
    | (have h := ptx_in (an := x18) (show MSX leastY_0o1 mostY_0o1 nodes_0o5 edges_0o5 y_0o1 bends_0o1 bendY_0o1 by assumption) ‹GKE _ _ _ _› (show PTX y_0o1 bends_0o1 bendY_0o1 tail_0o5 head_0o5 _ _ x18 by assumption) (by omega) (by omega) (by omega)
       omega)
  
def o_Ho_drawLine_27 : or_T := (45, 15, [(1, (2, 0, 0, [0])), (2, (0, 0, 47, [])), (3, (0, 1, 23, [])), (5, (2, 0, 0, [3])), (6, (0, -41000000, 1001000000, [])), (9, (0, -41000000, 1001000000, [])), (12, (0, 1, 1, [])), (13, (0, 2, 24, [])), (14, (0, -41000000, 1001000000, []))], [(20, [1, 5, 2, 13, 14], [60, 0, 5, 933, 2, 4, 5, 1007, 1008]), (1, [13, 3, 12], []), (20, [1, 9], [50, 2, 0, 18, 20, 2, 7, 0, 3, 2, 0, 18, 1, 1, 0, 2, 1, 1, 2, 0, 20]), (20, [1, 5, 2, 3, 9], [60, 0, 5, 940, 3, 4, 6, 1007, 1008]), (20, [1, 6], [50, 2, 0, 17, 19, 2, 7, 0, 3, 2, 0, 17, 1, 1, 0, 2, 1, 1, 2, 0, 19]), (20, [1, 5, 2, 3, 6], [60, 0, 5, 933, 2, 4, 5, 1007, 1008]), (20, [1, 5], [60, 4, 3, 932, 17, 19, 1000, 1001, 2, 4, 5]), (20, [1, 5], [60, 4, 3, 939, 18, 20, 1000, 1001, 3, 4, 6]), (20, [5], [60, 2, 2, 596, 0, 1, 7, 8]), (20, [2, 5], [50, 1, 0, 1001, 2, 6, 0, 2, 0, 0, 1, 0, 0, 6, 4, 2, 1, 0, 0, 1, 2, 1, 1]), (20, [3], [50, 0, 0, 0, 2, 0, 0, 1, 0])], [], [], [(20, [1, 14], [50, 2, 0, 17, 19, 2, 7, 0, 3, 2, 0, 17, 1, 1, 0, 2, 1, 1, 2, 0, 19])], [], [(13, 3, 1, 1)])
theorem oo_Ho_drawLine_27 {kA : Nat → ClassId} : or_ok PRD kA GG o_Ho_drawLine_27 := by
  refine or_mk fun A ta ws vs hD hth hl => ?_
  intro t1 r1 t2 k2 t3 k3 t5 r5 t6 k6 t9 k9 t12 k12 t13 k13 t14 k14 d0 f0 f1 f2 f3 f4 f5 f6 f7 f8 f9 f10
  have kz_1_17 := fdq_198 hD hth r1
  have kz_1_19 := fdq_199 hD hth r1
  have kz_5_0 := fdq_21 hD hth r5
  have kz_5_1 := fdq_30 hD hth r5
  have nf0 : fc_1 PRD (20, [1, 14], [50, 2, 0, 17, 19, 2, 7, 0, 3, 2, 0, 17, 1, 1, 0, 2, 1, 1, 2, 0, 19]) ws (vs) := ⟨nf_in hl rfl, sgq_798 (vc_Ho_drawLine_27_0 (v_iv (n_v vs 2)) (v_iv (n_v vs 6)) (v_iv (n_v vs 9)) (v_iv (n_v vs 13)) (v_iv (n_v vs 14)) (w_ei ws (w_ar ws (n_v vs 1) 2)) (w_ei ws (w_ar ws (n_v vs 1) 4)) (w_ei ws (w_ar ws (n_v vs 1) 5)) (w_ei ws (w_ar ws (n_v vs 5) 7)) (w_ei ws (w_ar ws (n_v vs 5) 8)) (w_fi ws (n_v vs 1) 18) (w_fi ws (n_v vs 1) 20) (w_ei ws (w_ar ws (n_v vs 1) 3)) (w_ei ws (w_ar ws (n_v vs 1) 6)) (w_fi ws (n_v vs 1) 17) (w_fi ws (n_v vs 1) 19) (w_fi ws (n_v vs 5) 0) (w_fi ws (n_v vs 5) 1) k2 k13 k14 (shm_343 f0) (shm_1490 f6) (shm_386 f8) (shm_387 f9) kz_1_17 kz_1_19 kz_5_0 kz_5_1)⟩
  refine ⟨(fun _ h => (by cases h)), [], trivial, ?_, (fun _ h => (by cases h))⟩
  rw [List.append_nil]
  exact List.forall_mem_cons.mpr ⟨⟨show (20 : Nat) < 100 from by decide, nf0⟩, (fun _ h => (by cases h))⟩
set_option maxHeartbeats 4000000 in
theorem vc_Ho_drawLine_28_0 (x2 : Int) (x3 : Int) (x6 : Int) (x9 : Int) (x13 : Int) (x14 : Int) (x17 : Int) (x18 : Int) (y_0o1 : Int → Int) (bends_0o1 : Int → Int) (bendY_0o1 : Int → Int) (tail_0o5 : Int → Int) (head_0o5 : Int → Int) (leastX_0o1 : Int) (mostX_0o1 : Int) (x_0o1 : Int → Int) (bendX_0o1 : Int → Int) (leastY_0o1 : Int) (mostY_0o1 : Int) (nodes_0o5 : Int) (edges_0o5 : Int) (k2 : 0 ≤ x2 ∧ x2 ≤ 47) (k3 : 1 ≤ x3 ∧ x3 ≤ 23) (k13 : 2 ≤ x13 ∧ x13 ≤ 24) (k17 : 2 ≤ x17 ∧ x17 ≤ 24) (k18 : (-40000000) ≤ x18 ∧ x18 ≤ 690000000) (d0 : x3 + 1 ≤ x17 ∧ x17 ≤ x3 + 1) (d1 : x3 + 1 ≤ x13 ∧ x13 ≤ x3 + 1) (f0 : PTY (y_0o1) (bends_0o1) (bendY_0o1) (tail_0o5) (head_0o5) (x2) (x17) (x18)) (f10 : MSY (leastY_0o1) (mostY_0o1) (nodes_0o5) (edges_0o5) (y_0o1) (bends_0o1) (bendY_0o1)) (f11 : GKE (nodes_0o5) (edges_0o5) (tail_0o5) (head_0o5)) (f12 : (0 ≤ x2) ∧ ((x2 + 1) ≤ edges_0o5)) (kz_1_18 : (-41000000) ≤ leastY_0o1 ∧ leastY_0o1 ≤ 690000000) (kz_1_20 : (-40000000) ≤ mostY_0o1 ∧ mostY_0o1 ≤ 1001000000) (kz_5_0 : 0 ≤ nodes_0o5 ∧ nodes_0o5 ≤ 24) (kz_5_1 : 0 ≤ edges_0o5 ∧ edges_0o5 ≤ 48) : (leastY_0o1 ≤ x18) ∧ (x18 ≤ mostY_0o1) := by
  first
    | omega
    | assumption
    | (have h := ptx_in (an := x6) (show MSX leastX_0o1 mostX_0o1 nodes_0o5 edges_0o5 x_0o1 bends_0o1 bendX_0o1 by assumption) ‹GKE _ _ _ _› (show PTX x_0o1 bends_0o1 bendX_0o1 tail_0o5 head_0o5 _ _ x6 by assumption) (by omega) (by omega) (by omega)
       omega)
    | (have h := ptx_in (an := x14) (show MSX leastX_0o1 mostX_0o1 nodes_0o5 edges_0o5 x_0o1 bends_0o1 bendX_0o1 by assumption) ‹GKE _ _ _ _› (show PTX x_0o1 bends_0o1 bendX_0o1 tail_0o5 head_0o5 _ _ x14 by assumption) (by omega) (by omega) (by omega)
       omega)
    | (have h := ptx_in (an := x9) (show MSX leastY_0o1 mostY_0o1 nodes_0o5 edges_0o5 y_0o1 bends_0o1 bendY_0o1 by assumption) ‹GKE _ _ _ _› (show PTX y_0o1 bends_0o1 bendY_0o1 tail_0o5 head_0o5 _ _ x9 by assumption) (by omega) (by omega) (by omega)
       omega)
    | (have h := ptx_in (an := x18) (show MSX leastY_0o1 mostY_0o1 nodes_0o5 edges_0o5 y_0o1 bends_0o1 bendY_0o1 by assumption) ‹GKE _ _ _ _› (show PTX y_0o1 bends_0o1 bendY_0o1 tail_0o5 head_0o5 _ _ x18 by assumption) (by omega) (by omega) (by omega)
       omega)
  
def o_Ho_drawLine_28 : or_T := (63, 19, [(1, (2, 0, 0, [0])), (2, (0, 0, 47, [])), (3, (0, 1, 23, [])), (5, (2, 0, 0, [3])), (6, (0, -41000000, 1001000000, [])), (9, (0, -41000000, 1001000000, [])), (12, (0, 1, 1, [])), (13, (0, 2, 24, [])), (14, (0, -41000000, 1001000000, [])), (16, (0, 1, 1, [])), (17, (0, 2, 24, [])), (18, (0, -40000000, 690000000, []))], [(20, [1, 5, 2, 17, 18], [60, 0, 5, 940, 3, 4, 6, 1007, 1008]), (1, [17, 3, 16], []), (20, [1, 14], [50, 2, 0, 17, 19, 2, 7, 0, 3, 2, 0, 17, 1, 1, 0, 2, 1, 1, 2, 0, 19]), (20, [1, 5, 2, 13, 14], [60, 0, 5, 933, 2, 4, 5, 1007, 1008]), (1, [13, 3, 12], []), (20, [1, 9], [50, 2, 0, 18, 20, 2, 7, 0, 3, 2, 0, 18, 1, 1, 0, 2, 1, 1, 2, 0, 20]), (20, [1, 5, 2, 3, 9], [60, 0, 5, 940, 3, 4, 6, 1007, 1008]), (20, [1, 6], [50, 2, 0, 17, 19, 2, 7, 0, 3, 2, 0, 17, 1, 1, 0, 2, 1, 1, 2, 0, 19]), (20, [1, 5, 2, 3, 6], [60, 0, 5, 933, 2, 4, 5, 1007, 1008]), (20, [1, 5], [60, 4, 3, 932, 17, 19, 1000, 1001, 2, 4, 5]), (20, [1, 5], [60, 4, 3, 939, 18, 20, 1000, 1001, 3, 4, 6]), (20, [5], [60, 2, 2, 596, 0, 1, 7, 8]), (20, [2, 5], [50, 1, 0, 1001, 2, 6, 0, 2, 0, 0, 1, 0, 0, 6, 4, 2, 1, 0, 0, 1, 2, 1, 1]), (20, [3], [50, 0, 0, 0, 2, 0, 0, 1, 0])], [], [], [(20, [1, 18], [50, 2, 0, 18, 20, 2, 7, 0, 3, 2, 0, 18, 1, 1, 0, 2, 1, 1, 2, 0, 20])], [], [(17, 3, 1, 1), (13, 3, 1, 1)])
theorem oo_Ho_drawLine_28 {kA : Nat → ClassId} : or_ok PRD kA GG o_Ho_drawLine_28 := by
  refine or_mk fun A ta ws vs hD hth hl => ?_
  intro t1 r1 t2 k2 t3 k3 t5 r5 t6 k6 t9 k9 t12 k12 t13 k13 t14 k14 t16 k16 t17 k17 t18 k18 d0 d1 f0 f1 f2 f3 f4 f5 f6 f7 f8 f9 f10 f11 f12 f13
  have kz_1_18 := fdq_200 hD hth r1
  have kz_1_20 := fdq_201 hD hth r1
  have kz_5_0 := fdq_21 hD hth r5
  have kz_5_1 := fdq_30 hD hth r5
  have nf0 : fc_1 PRD (20, [1, 18], [50, 2, 0, 18, 20, 2, 7, 0, 3, 2, 0, 18, 1, 1, 0, 2, 1, 1, 2, 0, 20]) ws (vs) := ⟨nf_in hl rfl, sgq_800 (vc_Ho_drawLine_28_0 (v_iv (n_v vs 2)) (v_iv (n_v vs 3)) (v_iv (n_v vs 6)) (v_iv (n_v vs 9)) (v_iv (n_v vs 13)) (v_iv (n_v vs 14)) (v_iv (n_v vs 17)) (v_iv (n_v vs 18)) (w_ei ws (w_ar ws (n_v vs 1) 3)) (w_ei ws (w_ar ws (n_v vs 1) 4)) (w_ei ws (w_ar ws (n_v vs 1) 6)) (w_ei ws (w_ar ws (n_v vs 5) 7)) (w_ei ws (w_ar ws (n_v vs 5) 8)) (w_fi ws (n_v vs 1) 17) (w_fi ws (n_v vs 1) 19) (w_ei ws (w_ar ws (n_v vs 1) 2)) (w_ei ws (w_ar ws (n_v vs 1) 5)) (w_fi ws (n_v vs 1) 18) (w_fi ws (n_v vs 1) 20) (w_fi ws (n_v vs 5) 0) (w_fi ws (n_v vs 5) 1) k2 k3 k13 k17 k18 d0 d1 (shm_344 f0) (shm_1491 f10) (shm_386 f11) (shm_387 f12) kz_1_18 kz_1_20 kz_5_0 kz_5_1)⟩
  refine ⟨(fun _ h => (by cases h)), [], trivial, ?_, (fun _ h => (by cases h))⟩
  rw [List.append_nil]
  exact List.forall_mem_cons.mpr ⟨⟨show (20 : Nat) < 100 from by decide, nf0⟩, (fun _ h => (by cases h))⟩
set_option maxHeartbeats 4000000 in
theorem vc_Ho_drawLine_29_0 (x2 : Int) (x3 : Int) (x6 : Int) (x9 : Int) (x13 : Int) (x14 : Int) (x17 : Int) (x18 : Int) (y_0o1 : Int → Int) (bends_0o1 : Int → Int) (bendY_0o1 : Int → Int) (tail_0o5 : Int → Int) (head_0o5 : Int → Int) (leastX_0o1 : Int) (mostX_0o1 : Int) (x_0o1 : Int → Int) (bendX_0o1 : Int → Int) (leastY_0o1 : Int) (mostY_0o1 : Int) (nodes_0o5 : Int) (edges_0o5 : Int) (k2 : 0 ≤ x2 ∧ x2 ≤ 47) (k3 : 1 ≤ x3 ∧ x3 ≤ 23) (k13 : 2 ≤ x13 ∧ x13 ≤ 24) (k17 : 2 ≤ x17 ∧ x17 ≤ 24) (k18 : (-41000000) ≤ x18 ∧ x18 ≤ 1001000000) (d0 : x3 + 1 ≤ x17 ∧ x17 ≤ x3 + 1) (d1 : x3 + 1 ≤ x13 ∧ x13 ≤ x3 + 1) (f0 : PTY (y_0o1) (bends_0o1) (bendY_0o1) (tail_0o5) (head_0o5) (x2) (x17) (x18)) (f10 : MSY (leastY_0o1) (mostY_0o1) (nodes_0o5) (edges_0o5) (y_0o1) (bends_0o1) (bendY_0o1)) (f11 : GKE (nodes_0o5) (edges_0o5) (tail_0o5) (head_0o5)) (f12 : (0 ≤ x2) ∧ ((x2 + 1) ≤ edges_0o5)) (kz_1_18 : (-41000000) ≤ leastY_0o1 ∧ leastY_0o1 ≤ 690000000) (kz_1_20 : (-40000000) ≤ mostY_0o1 ∧ mostY_0o1 ≤ 1001000000) (kz_5_0 : 0 ≤ nodes_0o5 ∧ nodes_0o5 ≤ 24) (kz_5_1 : 0 ≤ edges_0o5 ∧ edges_0o5 ≤ 48) : (leastY_0o1 ≤ x18) ∧ (x18 ≤ mostY_0o1) := by
  first
    | omega
    | assumption
    | (have h := ptx_in (an := x6) (show MSX leastX_0o1 mostX_0o1 nodes_0o5 edges_0o5 x_0o1 bends_0o1 bendX_0o1 by assumption) ‹GKE _ _ _ _› (show PTX x_0o1 bends_0o1 bendX_0o1 tail_0o5 head_0o5 _ _ x6 by assumption) (by omega) (by omega) (by omega)
       omega)
    | (have h := ptx_in (an := x14) (show MSX leastX_0o1 mostX_0o1 nodes_0o5 edges_0o5 x_0o1 bends_0o1 bendX_0o1 by assumption) ‹GKE _ _ _ _› (show PTX x_0o1 bends_0o1 bendX_0o1 tail_0o5 head_0o5 _ _ x14 by assumption) (by omega) (by omega) (by omega)
       omega)
    | (have h := ptx_in (an := x9) (show MSX leastY_0o1 mostY_0o1 nodes_0o5 edges_0o5 y_0o1 bends_0o1 bendY_0o1 by assumption) ‹GKE _ _ _ _› (show PTX y_0o1 bends_0o1 bendY_0o1 tail_0o5 head_0o5 _ _ x9 by assumption) (by omega) (by omega) (by omega)
       omega)
    | (have h := ptx_in (an := x18) (show MSX leastY_0o1 mostY_0o1 nodes_0o5 edges_0o5 y_0o1 bends_0o1 bendY_0o1 by assumption) ‹GKE _ _ _ _› (show PTX y_0o1 bends_0o1 bendY_0o1 tail_0o5 head_0o5 _ _ x18 by assumption) (by omega) (by omega) (by omega)
       omega)
  
def o_Ho_drawLine_29 : or_T := (63, 19, [(1, (2, 0, 0, [0])), (2, (0, 0, 47, [])), (3, (0, 1, 23, [])), (5, (2, 0, 0, [3])), (6, (0, -41000000, 1001000000, [])), (9, (0, -41000000, 1001000000, [])), (12, (0, 1, 1, [])), (13, (0, 2, 24, [])), (14, (0, -41000000, 1001000000, [])), (16, (0, 1, 1, [])), (17, (0, 2, 24, [])), (18, (0, -41000000, 1001000000, []))], [(20, [1, 5, 2, 17, 18], [60, 0, 5, 940, 3, 4, 6, 1007, 1008]), (1, [17, 3, 16], []), (20, [1, 14], [50, 2, 0, 17, 19, 2, 7, 0, 3, 2, 0, 17, 1, 1, 0, 2, 1, 1, 2, 0, 19]), (20, [1, 5, 2, 13, 14], [60, 0, 5, 933, 2, 4, 5, 1007, 1008]), (1, [13, 3, 12], []), (20, [1, 9], [50, 2, 0, 18, 20, 2, 7, 0, 3, 2, 0, 18, 1, 1, 0, 2, 1, 1, 2, 0, 20]), (20, [1, 5, 2, 3, 9], [60, 0, 5, 940, 3, 4, 6, 1007, 1008]), (20, [1, 6], [50, 2, 0, 17, 19, 2, 7, 0, 3, 2, 0, 17, 1, 1, 0, 2, 1, 1, 2, 0, 19]), (20, [1, 5, 2, 3, 6], [60, 0, 5, 933, 2, 4, 5, 1007, 1008]), (20, [1, 5], [60, 4, 3, 932, 17, 19, 1000, 1001, 2, 4, 5]), (20, [1, 5], [60, 4, 3, 939, 18, 20, 1000, 1001, 3, 4, 6]), (20, [5], [60, 2, 2, 596, 0, 1, 7, 8]), (20, [2, 5], [50, 1, 0, 1001, 2, 6, 0, 2, 0, 0, 1, 0, 0, 6, 4, 2, 1, 0, 0, 1, 2, 1, 1]), (20, [3], [50, 0, 0, 0, 2, 0, 0, 1, 0])], [], [], [(20, [1, 18], [50, 2, 0, 18, 20, 2, 7, 0, 3, 2, 0, 18, 1, 1, 0, 2, 1, 1, 2, 0, 20])], [], [(17, 3, 1, 1), (13, 3, 1, 1)])
theorem oo_Ho_drawLine_29 {kA : Nat → ClassId} : or_ok PRD kA GG o_Ho_drawLine_29 := by
  refine or_mk fun A ta ws vs hD hth hl => ?_
  intro t1 r1 t2 k2 t3 k3 t5 r5 t6 k6 t9 k9 t12 k12 t13 k13 t14 k14 t16 k16 t17 k17 t18 k18 d0 d1 f0 f1 f2 f3 f4 f5 f6 f7 f8 f9 f10 f11 f12 f13
  have kz_1_18 := fdq_200 hD hth r1
  have kz_1_20 := fdq_201 hD hth r1
  have kz_5_0 := fdq_21 hD hth r5
  have kz_5_1 := fdq_30 hD hth r5
  have nf0 : fc_1 PRD (20, [1, 18], [50, 2, 0, 18, 20, 2, 7, 0, 3, 2, 0, 18, 1, 1, 0, 2, 1, 1, 2, 0, 20]) ws (vs) := ⟨nf_in hl rfl, sgq_800 (vc_Ho_drawLine_29_0 (v_iv (n_v vs 2)) (v_iv (n_v vs 3)) (v_iv (n_v vs 6)) (v_iv (n_v vs 9)) (v_iv (n_v vs 13)) (v_iv (n_v vs 14)) (v_iv (n_v vs 17)) (v_iv (n_v vs 18)) (w_ei ws (w_ar ws (n_v vs 1) 3)) (w_ei ws (w_ar ws (n_v vs 1) 4)) (w_ei ws (w_ar ws (n_v vs 1) 6)) (w_ei ws (w_ar ws (n_v vs 5) 7)) (w_ei ws (w_ar ws (n_v vs 5) 8)) (w_fi ws (n_v vs 1) 17) (w_fi ws (n_v vs 1) 19) (w_ei ws (w_ar ws (n_v vs 1) 2)) (w_ei ws (w_ar ws (n_v vs 1) 5)) (w_fi ws (n_v vs 1) 18) (w_fi ws (n_v vs 1) 20) (w_fi ws (n_v vs 5) 0) (w_fi ws (n_v vs 5) 1) k2 k3 k13 k17 k18 d0 d1 (shm_344 f0) (shm_1491 f10) (shm_386 f11) (shm_387 f12) kz_1_18 kz_1_20 kz_5_0 kz_5_1)⟩
  refine ⟨(fun _ h => (by cases h)), [], trivial, ?_, (fun _ h => (by cases h))⟩
  rw [List.append_nil]
  exact List.forall_mem_cons.mpr ⟨⟨show (20 : Nat) < 100 from by decide, nf0⟩, (fun _ h => (by cases h))⟩
set_option maxHeartbeats 4000000 in
theorem vc_Ho_drawLine_30_0 (x2 : Int) (x3 : Int) (x6 : Int) (x_0o1 : Int → Int) (bends_0o1 : Int → Int) (bendX_0o1 : Int → Int) (tail_0o5 : Int → Int) (head_0o5 : Int → Int) (leastX_0o1 : Int) (mostX_0o1 : Int) (nodes_0o5 : Int) (edges_0o5 : Int) (y_0o1 : Int → Int) (bendY_0o1 : Int → Int) (leastY_0o1 : Int) (mostY_0o1 : Int) (k2 : 0 ≤ x2 ∧ x2 ≤ 47) (k3 : 0 ≤ x3 ∧ x3 ≤ 0) (k6 : (-40000000) ≤ x6 ∧ x6 ≤ 690000000) (f0 : PTX (x_0o1) (bends_0o1) (bendX_0o1) (tail_0o5) (head_0o5) (x2) (x3) (x6)) (f1 : MSX (leastX_0o1) (mostX_0o1) (nodes_0o5) (edges_0o5) (x_0o1) (bends_0o1) (bendX_0o1)) (f3 : GKE (nodes_0o5) (edges_0o5) (tail_0o5) (head_0o5)) (f4 : (0 ≤ x2) ∧ ((x2 + 1) ≤ edges_0o5)) (f5 : 0 ≤ x3) (kz_1_17 : (-41000000) ≤ leastX_0o1 ∧ leastX_0o1 ≤ 690000000) (kz_1_19 : (-40000000) ≤ mostX_0o1 ∧ mostX_0o1 ≤ 1001000000) (kz_5_0 : 0 ≤ nodes_0o5 ∧ nodes_0o5 ≤ 24) (kz_5_1 : 0 ≤ edges_0o5 ∧ edges_0o5 ≤ 48) : (leastX_0o1 ≤ x6) ∧ (x6 ≤ mostX_0o1) := by
  first
    | omega
    | assumption
    | (have h := ptx_in (an := x6) (show MSX leastX_0o1 mostX_0o1 nodes_0o5 edges_0o5 x_0o1 bends_0o1 bendX_0o1 by assumption) ‹GKE _ _ _ _› (show PTX x_0o1 bends_0o1 bendX_0o1 tail_0o5 head_0o5 _ _ x6 by assumption) (by omega) (by omega) (by omega)
       omega)
    | (have h := ptx_in (an := x14) (show MSX leastX_0o1 mostX_0o1 nodes_0o5 edges_0o5 x_0o1 bends_0o1 bendX_0o1 by assumption) ‹GKE _ _ _ _› (show PTX x_0o1 bends_0o1 bendX_0o1 tail_0o5 head_0o5 _ _ x14 by assumption) (by omega) (by omega) (by omega)
       omega)
    | (have h := ptx_in (an := x9) (show MSX leastY_0o1 mostY_0o1 nodes_0o5 edges_0o5 y_0o1 bends_0o1 bendY_0o1 by assumption) ‹GKE _ _ _ _› (show PTX y_0o1 bends_0o1 bendY_0o1 tail_0o5 head_0o5 _ _ x9 by assumption) (by omega) (by omega) (by omega)
       omega)
    | (have h := ptx_in (an := x18) (show MSX leastY_0o1 mostY_0o1 nodes_0o5 edges_0o5 y_0o1 bends_0o1 bendY_0o1 by assumption) ‹GKE _ _ _ _› (show PTX y_0o1 bends_0o1 bendY_0o1 tail_0o5 head_0o5 _ _ x18 by assumption) (by omega) (by omega) (by omega)
       omega)
  
def o_Ho_drawLine_30 : or_T := (11, 8, [(1, (2, 0, 0, [0])), (2, (0, 0, 47, [])), (3, (0, 0, 0, [])), (5, (2, 0, 0, [3])), (6, (0, -40000000, 690000000, []))], [(20, [1, 5, 2, 3, 6], [60, 0, 5, 933, 2, 4, 5, 1007, 1008]), (20, [1, 5], [60, 4, 3, 932, 17, 19, 1000, 1001, 2, 4, 5]), (20, [1, 5], [60, 4, 3, 939, 18, 20, 1000, 1001, 3, 4, 6]), (20, [5], [60, 2, 2, 596, 0, 1, 7, 8]), (20, [2, 5], [50, 1, 0, 1001, 2, 6, 0, 2, 0, 0, 1, 0, 0, 6, 4, 2, 1, 0, 0, 1, 2, 1, 1]), (20, [3], [50, 0, 0, 0, 2, 0, 0, 1, 0])], [], [], [(20, [1, 6], [50, 2, 0, 17, 19, 2, 7, 0, 3, 2, 0, 17, 1, 1, 0, 2, 1, 1, 2, 0, 19])], [], [])
theorem oo_Ho_drawLine_30 {kA : Nat → ClassId} : or_ok PRD kA GG o_Ho_drawLine_30 := by
  refine or_mk fun A ta ws vs hD hth hl => ?_
  intro t1 r1 t2 k2 t3 k3 t5 r5 t6 k6 f0 f1 f2 f3 f4 f5
  have kz_1_17 := fdq_198 hD hth r1
  have kz_1_19 := fdq_199 hD hth r1
  have kz_5_0 := fdq_21 hD hth r5
  have kz_5_1 := fdq_30 hD hth r5
  have nf0 : fc_1 PRD (20, [1, 6], [50, 2, 0, 17, 19, 2, 7, 0, 3, 2, 0, 17, 1, 1, 0, 2, 1, 1, 2, 0, 19]) ws (vs) := ⟨nf_in hl rfl, sgq_798 (vc_Ho_drawLine_30_0 (v_iv (n_v vs 2)) (v_iv (n_v vs 3)) (v_iv (n_v vs 6)) (w_ei ws (w_ar ws (n_v vs 1) 2)) (w_ei ws (w_ar ws (n_v vs 1) 4)) (w_ei ws (w_ar ws (n_v vs 1) 5)) (w_ei ws (w_ar ws (n_v vs 5) 7)) (w_ei ws (w_ar ws (n_v vs 5) 8)) (w_fi ws (n_v vs 1) 17) (w_fi ws (n_v vs 1) 19) (w_fi ws (n_v vs 5) 0) (w_fi ws (n_v vs 5) 1) (w_ei ws (w_ar ws (n_v vs 1) 3)) (w_ei ws (w_ar ws (n_v vs 1) 6)) (w_fi ws (n_v vs 1) 18) (w_fi ws (n_v vs 1) 20) k2 k3 k6 (shm_343 f0) (shm_1490 f1) (shm_386 f3) (shm_387 f4) (shm_722 f5) kz_1_17 kz_1_19 kz_5_0 kz_5_1)⟩
  refine ⟨(fun _ h => (by cases h)), [], trivial, ?_, (fun _ h => (by cases h))⟩
  rw [List.append_nil]
  exact List.forall_mem_cons.mpr ⟨⟨show (20 : Nat) < 100 from by decide, nf0⟩, (fun _ h => (by cases h))⟩
set_option maxHeartbeats 4000000 in
theorem vc_Ho_drawLine_31_0 (x2 : Int) (x3 : Int) (x6 : Int) (x9 : Int) (y_0o1 : Int → Int) (bends_0o1 : Int → Int) (bendY_0o1 : Int → Int) (tail_0o5 : Int → Int) (head_0o5 : Int → Int) (leastX_0o1 : Int) (mostX_0o1 : Int) (x_0o1 : Int → Int) (bendX_0o1 : Int → Int) (nodes_0o5 : Int) (edges_0o5 : Int) (leastY_0o1 : Int) (mostY_0o1 : Int) (k2 : 0 ≤ x2 ∧ x2 ≤ 47) (k3 : 0 ≤ x3 ∧ x3 ≤ 0) (k9 : (-40000000) ≤ x9 ∧ x9 ≤ 690000000) (f0 : PTY (y_0o1) (bends_0o1) (bendY_0o1) (tail_0o5) (head_0o5) (x2) (x3) (x9)) (f4 : MSY (leastY_0o1) (mostY_0o1) (nodes_0o5) (edges_0o5) (y_0o1) (bends_0o1) (bendY_0o1)) (f5 : GKE (nodes_0o5) (edges_0o5) (tail_0o5) (head_0o5)) (f6 : (0 ≤ x2) ∧ ((x2 + 1) ≤ edges_0o5)) (f7 : 0 ≤ x3) (kz_1_18 : (-41000000) ≤ leastY_0o1 ∧ leastY_0o1 ≤ 690000000) (kz_1_20 : (-40000000) ≤ mostY_0o1 ∧ mostY_0o1 ≤ 1001000000) (kz_5_0 : 0 ≤ nodes_0o5 ∧ nodes_0o5 ≤ 24) (kz_5_1 : 0 ≤ edges_0o5 ∧ edges_0o5 ≤ 48) : (leastY_0o1 ≤ x9) ∧ (x9 ≤ mostY_0o1) := by
  first
    | omega
    | assumption
    | (have h := ptx_in (an := x6) (show MSX leastX_0o1 mostX_0o1 nodes_0o5 edges_0o5 x_0o1 bends_0o1 bendX_0o1 by assumption) ‹GKE _ _ _ _› (show PTX x_0o1 bends_0o1 bendX_0o1 tail_0o5 head_0o5 _ _ x6 by assumption) (by omega) (by omega) (by omega)
       omega)
    | (have h := ptx_in (an := x14) (show MSX leastX_0o1 mostX_0o1 nodes_0o5 edges_0o5 x_0o1 bends_0o1 bendX_0o1 by assumption) ‹GKE _ _ _ _› (show PTX x_0o1 bends_0o1 bendX_0o1 tail_0o5 head_0o5 _ _ x14 by assumption) (by omega) (by omega) (by omega)
       omega)
    | (have h := ptx_in (an := x9) (show MSX leastY_0o1 mostY_0o1 nodes_0o5 edges_0o5 y_0o1 bends_0o1 bendY_0o1 by assumption) ‹GKE _ _ _ _› (show PTX y_0o1 bends_0o1 bendY_0o1 tail_0o5 head_0o5 _ _ x9 by assumption) (by omega) (by omega) (by omega)
       omega)
    | (have h := ptx_in (an := x18) (show MSX leastY_0o1 mostY_0o1 nodes_0o5 edges_0o5 y_0o1 bends_0o1 bendY_0o1 by assumption) ‹GKE _ _ _ _› (show PTX y_0o1 bends_0o1 bendY_0o1 tail_0o5 head_0o5 _ _ x18 by assumption) (by omega) (by omega) (by omega)
       omega)
  
def o_Ho_drawLine_31 : or_T := (27, 11, [(1, (2, 0, 0, [0])), (2, (0, 0, 47, [])), (3, (0, 0, 0, [])), (5, (2, 0, 0, [3])), (6, (0, -40000000, 690000000, [])), (9, (0, -40000000, 690000000, []))], [(20, [1, 5, 2, 3, 9], [60, 0, 5, 940, 3, 4, 6, 1007, 1008]), (20, [1, 6], [50, 2, 0, 17, 19, 2, 7, 0, 3, 2, 0, 17, 1, 1, 0, 2, 1, 1, 2, 0, 19]), (20, [1, 5, 2, 3, 6], [60, 0, 5, 933, 2, 4, 5, 1007, 1008]), (20, [1, 5], [60, 4, 3, 932, 17, 19, 1000, 1001, 2, 4, 5]), (20, [1, 5], [60, 4, 3, 939, 18, 20, 1000, 1001, 3, 4, 6]), (20, [5], [60, 2, 2, 596, 0, 1, 7, 8]), (20, [2, 5], [50, 1, 0, 1001, 2, 6, 0, 2, 0, 0, 1, 0, 0, 6, 4, 2, 1, 0, 0, 1, 2, 1, 1]), (20, [3], [50, 0, 0, 0, 2, 0, 0, 1, 0])], [], [], [(20, [1, 9], [50, 2, 0, 18, 20, 2, 7, 0, 3, 2, 0, 18, 1, 1, 0, 2, 1, 1, 2, 0, 20])], [], [])
theorem oo_Ho_drawLine_31 {kA : Nat → ClassId} : or_ok PRD kA GG o_Ho_drawLine_31 := by
  refine or_mk fun A ta ws vs hD hth hl => ?_
  intro t1 r1 t2 k2 t3 k3 t5 r5 t6 k6 t9 k9 f0 f1 f2 f3 f4 f5 f6 f7
  have kz_1_18 := fdq_200 hD hth r1
  have kz_1_20 := fdq_201 hD hth r1
  have kz_5_0 := fdq_21 hD hth r5
  have kz_5_1 := fdq_30 hD hth r5
  have nf0 : fc_1 PRD (20, [1, 9], [50, 2, 0, 18, 20, 2, 7, 0, 3, 2, 0, 18, 1, 1, 0, 2, 1, 1, 2, 0, 20]) ws (vs) := ⟨nf_in hl rfl, sgq_800 (vc_Ho_drawLine_31_0 (v_iv (n_v vs 2)) (v_iv (n_v vs 3)) (v_iv (n_v vs 6)) (v_iv (n_v vs 9)) (w_ei ws (w_ar ws (n_v vs 1) 3)) (w_ei ws (w_ar ws (n_v vs 1) 4)) (w_ei ws (w_ar ws (n_v vs 1) 6)) (w_ei ws (w_ar ws (n_v vs 5) 7)) (w_ei ws (w_ar ws (n_v vs 5) 8)) (w_fi ws (n_v vs 1) 17) (w_fi ws (n_v vs 1) 19) (w_ei ws (w_ar ws (n_v vs 1) 2)) (w_ei ws (w_ar ws (n_v vs 1) 5)) (w_fi ws (n_v vs 5) 0) (w_fi ws (n_v vs 5) 1) (w_fi ws (n_v vs 1) 18) (w_fi ws (n_v vs 1) 20) k2 k3 k9 (shm_344 f0) (shm_1491 f4) (shm_386 f5) (shm_387 f6) (shm_722 f7) kz_1_18 kz_1_20 kz_5_0 kz_5_1)⟩
  refine ⟨(fun _ h => (by cases h)), [], trivial, ?_, (fun _ h => (by cases h))⟩
  rw [List.append_nil]
  exact List.forall_mem_cons.mpr ⟨⟨show (20 : Nat) < 100 from by decide, nf0⟩, (fun _ h => (by cases h))⟩
set_option maxHeartbeats 4000000 in
theorem vc_Ho_drawLine_32_0 (x2 : Int) (x6 : Int) (x9 : Int) (x13 : Int) (x14 : Int) (x_0o1 : Int → Int) (bends_0o1 : Int → Int) (bendX_0o1 : Int → Int) (tail_0o5 : Int → Int) (head_0o5 : Int → Int) (leastY_0o1 : Int) (mostY_0o1 : Int) (y_0o1 : Int → Int) (bendY_0o1 : Int → Int) (leastX_0o1 : Int) (mostX_0o1 : Int) (nodes_0o5 : Int) (edges_0o5 : Int) (k2 : 0 ≤ x2 ∧ x2 ≤ 47) (k13 : 1 ≤ x13 ∧ x13 ≤ 1) (k14 : (-40000000) ≤ x14 ∧ x14 ≤ 690000000) (f0 : PTX (x_0o1) (bends_0o1) (bendX_0o1) (tail_0o5) (head_0o5) (x2) (x13) (x14)) (f6 : MSX (leastX_0o1) (mostX_0o1) (nodes_0o5) (edges_0o5) (x_0o1) (bends_0o1) (bendX_0o1)) (f8 : GKE (nodes_0o5) (edges_0o5) (tail_0o5) (head_0o5)) (f9 : (0 ≤ x2) ∧ ((x2 + 1) ≤ edges_0o5)) (kz_1_17 : (-41000000) ≤ leastX_0o1 ∧ leastX_0o1 ≤ 690000000) (kz_1_19 : (-40000000) ≤ mostX_0o1 ∧ mostX_0o1 ≤ 1001000000) (kz_5_0 : 0 ≤ nodes_0o5 ∧ nodes_0o5 ≤ 24) (kz_5_1 : 0 ≤ edges_0o5 ∧ edges_0o5 ≤ 48) : (leastX_0o1 ≤ x14) ∧ (x14 ≤ mostX_0o1) := by
  first
    | omega
    | assumption
    | (have h := ptx_in (an := x6) (show MSX leastX_0o1 mostX_0o1 nodes_0o5 edges_0o5 x_0o1 bends_0o1 bendX_0o1 by assumption) ‹GKE _ _ _ _› (show PTX x_0o1 bends_0o1 bendX_0o1 tail_0o5 head_0o5 _ _ x6 by assumption) (by omega) (by omega) (by omega)
       omega)
    | (have h := ptx_in (an := x14) (show MSX leastX_0o1 mostX_0o1 nodes_0o5 edges_0o5 x_0o1 bends_0o1 bendX_0o1 by assumption) ‹GKE _ _ _ _› (show PTX x_0o1 bends_0o1 bendX_0o1 tail_0o5 head_0o5 _ _ x14 by assumption) (by omega) (by omega) (by omega)
       omega)
    | (have h := ptx_in (an := x9) (show MSX leastY_0o1 mostY_0o1 nodes_0o5 edges_0o5 y_0o1 bends_0o1 bendY_0o1 by assumption) ‹GKE _ _ _ _› (show PTX y_0o1 bends_0o1 bendY_0o1 tail_0o5 head_0o5 _ _ x9 by assumption) (by omega) (by omega) (by omega)
       omega)
    | (have h := ptx_in (an := x18) (show MSX leastY_0o1 mostY_0o1 nodes_0o5 edges_0o5 y_0o1 bends_0o1 bendY_0o1 by assumption) ‹GKE _ _ _ _› (show PTX y_0o1 bends_0o1 bendY_0o1 tail_0o5 head_0o5 _ _ x18 by assumption) (by omega) (by omega) (by omega)
       omega)
  
def o_Ho_drawLine_32 : or_T := (45, 15, [(1, (2, 0, 0, [0])), (2, (0, 0, 47, [])), (3, (0, 0, 0, [])), (5, (2, 0, 0, [3])), (6, (0, -40000000, 690000000, [])), (9, (0, -40000000, 690000000, [])), (12, (0, 1, 1, [])), (13, (0, 1, 1, [])), (14, (0, -40000000, 690000000, []))], [(20, [1, 5, 2, 13, 14], [60, 0, 5, 933, 2, 4, 5, 1007, 1008]), (1, [13, 3, 12], []), (20, [1, 9], [50, 2, 0, 18, 20, 2, 7, 0, 3, 2, 0, 18, 1, 1, 0, 2, 1, 1, 2, 0, 20]), (20, [1, 5, 2, 3, 9], [60, 0, 5, 940, 3, 4, 6, 1007, 1008]), (20, [1, 6], [50, 2, 0, 17, 19, 2, 7, 0, 3, 2, 0, 17, 1, 1, 0, 2, 1, 1, 2, 0, 19]), (20, [1, 5, 2, 3, 6], [60, 0, 5, 933, 2, 4, 5, 1007, 1008]), (20, [1, 5], [60, 4, 3, 932, 17, 19, 1000, 1001, 2, 4, 5]), (20, [1, 5], [60, 4, 3, 939, 18, 20, 1000, 1001, 3, 4, 6]), (20, [5], [60, 2, 2, 596, 0, 1, 7, 8]), (20, [2, 5], [50, 1, 0, 1001, 2, 6, 0, 2, 0, 0, 1, 0, 0, 6, 4, 2, 1, 0, 0, 1, 2, 1, 1]), (20, [3], [50, 0, 0, 0, 2, 0, 0, 1, 0])], [], [], [(20, [1, 14], [50, 2, 0, 17, 19, 2, 7, 0, 3, 2, 0, 17, 1, 1, 0, 2, 1, 1, 2, 0, 19])], [], [])
theorem oo_Ho_drawLine_32 {kA : Nat → ClassId} : or_ok PRD kA GG o_Ho_drawLine_32 := by
  refine or_mk fun A ta ws vs hD hth hl => ?_
  intro t1 r1 t2 k2 t3 k3 t5 r5 t6 k6 t9 k9 t12 k12 t13 k13 t14 k14 f0 f1 f2 f3 f4 f5 f6 f7 f8 f9 f10
  have kz_1_17 := fdq_198 hD hth r1
  have kz_1_19 := fdq_199 hD hth r1
  have kz_5_0 := fdq_21 hD hth r5
  have kz_5_1 := fdq_30 hD hth r5
  have nf0 : fc_1 PRD (20, [1, 14], [50, 2, 0, 17, 19, 2, 7, 0, 3, 2, 0, 17, 1, 1, 0, 2, 1, 1, 2, 0, 19]) ws (vs) := ⟨nf_in hl rfl, sgq_798 (vc_Ho_drawLine_32_0 (v_iv (n_v vs 2)) (v_iv (n_v vs 6)) (v_iv (n_v vs 9)) (v_iv (n_v vs 13)) (v_iv (n_v vs 14)) (w_ei ws (w_ar ws (n_v vs 1) 2)) (w_ei ws (w_ar ws (n_v vs 1) 4)) (w_ei ws (w_ar ws (n_v vs 1) 5)) (w_ei ws (w_ar ws (n_v vs 5) 7)) (w_ei ws (w_ar ws (n_v vs 5) 8)) (w_fi ws (n_v vs 1) 18) (w_fi ws (n_v vs 1) 20) (w_ei ws (w_ar ws (n_v vs 1) 3)) (w_ei ws (w_ar ws (n_v vs 1) 6)) (w_fi ws (n_v vs 1) 17) (w_fi ws (n_v vs 1) 19) (w_fi ws (n_v vs 5) 0) (w_fi ws (n_v vs 5) 1) k2 k13 k14 (shm_343 f0) (shm_1490 f6) (shm_386 f8) (shm_387 f9) kz_1_17 kz_1_19 kz_5_0 kz_5_1)⟩
  refine ⟨(fun _ h => (by cases h)), [], trivial, ?_, (fun _ h => (by cases h))⟩
  rw [List.append_nil]
  exact List.forall_mem_cons.mpr ⟨⟨show (20 : Nat) < 100 from by decide, nf0⟩, (fun _ h => (by cases h))⟩
set_option maxHeartbeats 4000000 in
theorem vc_Ho_drawLine_33_0 (x2 : Int) (x6 : Int) (x9 : Int) (x14 : Int) (x17 : Int) (x18 : Int) (y_0o1 : Int → Int) (bends_0o1 : Int → Int) (bendY_0o1 : Int → Int) (tail_0o5 : Int → Int) (head_0o5 : Int → Int) (leastX_0o1 : Int) (mostX_0o1 : Int) (x_0o1 : Int → Int) (bendX_0o1 : Int → Int) (leastY_0o1 : Int) (mostY_0o1 : Int) (nodes_0o5 : Int) (edges_0o5 : Int) (k2 : 0 ≤ x2 ∧ x2 ≤ 47) (k17 : 1 ≤ x17 ∧ x17 ≤ 1) (k18 : (-40000000) ≤ x18 ∧ x18 ≤ 690000000) (f0 : PTY (y_0o1) (bends_0o1) (bendY_0o1) (tail_0o5) (head_0o5) (x2) (x17) (x18)) (f10 : MSY (leastY_0o1) (mostY_0o1) (nodes_0o5) (edges_0o5) (y_0o1) (bends_0o1) (bendY_0o1)) (f11 : GKE (nodes_0o5) (edges_0o5) (tail_0o5) (head_0o5)) (f12 : (0 ≤ x2) ∧ ((x2 + 1) ≤ edges_0o5)) (kz_1_18 : (-41000000) ≤ leastY_0o1 ∧ leastY_0o1 ≤ 690000000) (kz_1_20 : (-40000000) ≤ mostY_0o1 ∧ mostY_0o1 ≤ 1001000000) (kz_5_0 : 0 ≤ nodes_0o5 ∧ nodes_0o5 ≤ 24) (kz_5_1 : 0 ≤ edges_0o5 ∧ edges_0o5 ≤ 48) : (leastY_0o1 ≤ x18) ∧ (x18 ≤ mostY_0o1) := by
  first
    | omega
    | assumption
    | (have h := ptx_in (an := x6) (show MSX leastX_0o1 mostX_0o1 nodes_0o5 edges_0o5 x_0o1 bends_0o1 bendX_0o1 by assumption) ‹GKE _ _ _ _› (show PTX x_0o1 bends_0o1 bendX_0o1 tail_0o5 head_0o5 _ _ x6 by assumption) (by omega) (by omega) (by omega)
       omega)
    | (have h := ptx_in (an := x14) (show MSX leastX_0o1 mostX_0o1 nodes_0o5 edges_0o5 x_0o1 bends_0o1 bendX_0o1 by assumption) ‹GKE _ _ _ _› (show PTX x_0o1 bends_0o1 bendX_0o1 tail_0o5 head_0o5 _ _ x14 by assumption) (by omega) (by omega) (by omega)
       omega)
    | (have h := ptx_in (an := x9) (show MSX leastY_0o1 mostY_0o1 nodes_0o5 edges_0o5 y_0o1 bends_0o1 bendY_0o1 by assumption) ‹GKE _ _ _ _› (show PTX y_0o1 bends_0o1 bendY_0o1 tail_0o5 head_0o5 _ _ x9 by assumption) (by omega) (by omega) (by omega)
       omega)
    | (have h := ptx_in (an := x18) (show MSX leastY_0o1 mostY_0o1 nodes_0o5 edges_0o5 y_0o1 bends_0o1 bendY_0o1 by assumption) ‹GKE _ _ _ _› (show PTX y_0o1 bends_0o1 bendY_0o1 tail_0o5 head_0o5 _ _ x18 by assumption) (by omega) (by omega) (by omega)
       omega)
  
def o_Ho_drawLine_33 : or_T := (63, 19, [(1, (2, 0, 0, [0])), (2, (0, 0, 47, [])), (3, (0, 0, 0, [])), (5, (2, 0, 0, [3])), (6, (0, -40000000, 690000000, [])), (9, (0, -40000000, 690000000, [])), (12, (0, 1, 1, [])), (13, (0, 1, 1, [])), (14, (0, -40000000, 690000000, [])), (16, (0, 1, 1, [])), (17, (0, 1, 1, [])), (18, (0, -40000000, 690000000, []))], [(20, [1, 5, 2, 17, 18], [60, 0, 5, 940, 3, 4, 6, 1007, 1008]), (1, [17, 3, 16], []), (20, [1, 14], [50, 2, 0, 17, 19, 2, 7, 0, 3, 2, 0, 17, 1, 1, 0, 2, 1, 1, 2, 0, 19]), (20, [1, 5, 2, 13, 14], [60, 0, 5, 933, 2, 4, 5, 1007, 1008]), (1, [13, 3, 12], []), (20, [1, 9], [50, 2, 0, 18, 20, 2, 7, 0, 3, 2, 0, 18, 1, 1, 0, 2, 1, 1, 2, 0, 20]), (20, [1, 5, 2, 3, 9], [60, 0, 5, 940, 3, 4, 6, 1007, 1008]), (20, [1, 6], [50, 2, 0, 17, 19, 2, 7, 0, 3, 2, 0, 17, 1, 1, 0, 2, 1, 1, 2, 0, 19]), (20, [1, 5, 2, 3, 6], [60, 0, 5, 933, 2, 4, 5, 1007, 1008]), (20, [1, 5], [60, 4, 3, 932, 17, 19, 1000, 1001, 2, 4, 5]), (20, [1, 5], [60, 4, 3, 939, 18, 20, 1000, 1001, 3, 4, 6]), (20, [5], [60, 2, 2, 596, 0, 1, 7, 8]), (20, [2, 5], [50, 1, 0, 1001, 2, 6, 0, 2, 0, 0, 1, 0, 0, 6, 4, 2, 1, 0, 0, 1, 2, 1, 1]), (20, [3], [50, 0, 0, 0, 2, 0, 0, 1, 0])], [], [], [(20, [1, 18], [50, 2, 0, 18, 20, 2, 7, 0, 3, 2, 0, 18, 1, 1, 0, 2, 1, 1, 2, 0, 20])], [], [])
theorem oo_Ho_drawLine_33 {kA : Nat → ClassId} : or_ok PRD kA GG o_Ho_drawLine_33 := by
  refine or_mk fun A ta ws vs hD hth hl => ?_
  intro t1 r1 t2 k2 t3 k3 t5 r5 t6 k6 t9 k9 t12 k12 t13 k13 t14 k14 t16 k16 t17 k17 t18 k18 f0 f1 f2 f3 f4 f5 f6 f7 f8 f9 f10 f11 f12 f13
  have kz_1_18 := fdq_200 hD hth r1
  have kz_1_20 := fdq_201 hD hth r1
  have kz_5_0 := fdq_21 hD hth r5
  have kz_5_1 := fdq_30 hD hth r5
  have nf0 : fc_1 PRD (20, [1, 18], [50, 2, 0, 18, 20, 2, 7, 0, 3, 2, 0, 18, 1, 1, 0, 2, 1, 1, 2, 0, 20]) ws (vs) := ⟨nf_in hl rfl, sgq_800 (vc_Ho_drawLine_33_0 (v_iv (n_v vs 2)) (v_iv (n_v vs 6)) (v_iv (n_v vs 9)) (v_iv (n_v vs 14)) (v_iv (n_v vs 17)) (v_iv (n_v vs 18)) (w_ei ws (w_ar ws (n_v vs 1) 3)) (w_ei ws (w_ar ws (n_v vs 1) 4)) (w_ei ws (w_ar ws (n_v vs 1) 6)) (w_ei ws (w_ar ws (n_v vs 5) 7)) (w_ei ws (w_ar ws (n_v vs 5) 8)) (w_fi ws (n_v vs 1) 17) (w_fi ws (n_v vs 1) 19) (w_ei ws (w_ar ws (n_v vs 1) 2)) (w_ei ws (w_ar ws (n_v vs 1) 5)) (w_fi ws (n_v vs 1) 18) (w_fi ws (n_v vs 1) 20) (w_fi ws (n_v vs 5) 0) (w_fi ws (n_v vs 5) 1) k2 k17 k18 (shm_344 f0) (shm_1491 f10) (shm_386 f11) (shm_387 f12) kz_1_18 kz_1_20 kz_5_0 kz_5_1)⟩
  refine ⟨(fun _ h => (by cases h)), [], trivial, ?_, (fun _ h => (by cases h))⟩
  rw [List.append_nil]
  exact List.forall_mem_cons.mpr ⟨⟨show (20 : Nat) < 100 from by decide, nf0⟩, (fun _ h => (by cases h))⟩
set_option maxHeartbeats 4000000 in
theorem vc_Ho_drawLine_34_0 (x2 : Int) (x6 : Int) (x9 : Int) (x14 : Int) (x17 : Int) (x18 : Int) (y_0o1 : Int → Int) (bends_0o1 : Int → Int) (bendY_0o1 : Int → Int) (tail_0o5 : Int → Int) (head_0o5 : Int → Int) (leastX_0o1 : Int) (mostX_0o1 : Int) (x_0o1 : Int → Int) (bendX_0o1 : Int → Int) (leastY_0o1 : Int) (mostY_0o1 : Int) (nodes_0o5 : Int) (edges_0o5 : Int) (k2 : 0 ≤ x2 ∧ x2 ≤ 47) (k17 : 1 ≤ x17 ∧ x17 ≤ 1) (k18 : (-41000000) ≤ x18 ∧ x18 ≤ 1001000000) (f0 : PTY (y_0o1) (bends_0o1) (bendY_0o1) (tail_0o5) (head_0o5) (x2) (x17) (x18)) (f10 : MSY (leastY_0o1) (mostY_0o1) (nodes_0o5) (edges_0o5) (y_0o1) (bends_0o1) (bendY_0o1)) (f11 : GKE (nodes_0o5) (edges_0o5) (tail_0o5) (head_0o5)) (f12 : (0 ≤ x2) ∧ ((x2 + 1) ≤ edges_0o5)) (kz_1_18 : (-41000000) ≤ leastY_0o1 ∧ leastY_0o1 ≤ 690000000) (kz_1_20 : (-40000000) ≤ mostY_0o1 ∧ mostY_0o1 ≤ 1001000000) (kz_5_0 : 0 ≤ nodes_0o5 ∧ nodes_0o5 ≤ 24) (kz_5_1 : 0 ≤ edges_0o5 ∧ edges_0o5 ≤ 48) : (leastY_0o1 ≤ x18) ∧ (x18 ≤ mostY_0o1) := by
  first
    | omega
    | assumption
    | (have h := ptx_in (an := x6) (show MSX leastX_0o1 mostX_0o1 nodes_0o5 edges_0o5 x_0o1 bends_0o1 bendX_0o1 by assumption) ‹GKE _ _ _ _› (show PTX x_0o1 bends_0o1 bendX_0o1 tail_0o5 head_0o5 _ _ x6 by assumption) (by omega) (by omega) (by omega)
       omega)
    | (have h := ptx_in (an := x14) (show MSX leastX_0o1 mostX_0o1 nodes_0o5 edges_0o5 x_0o1 bends_0o1 bendX_0o1 by assumption) ‹GKE _ _ _ _› (show PTX x_0o1 bends_0o1 bendX_0o1 tail_0o5 head_0o5 _ _ x14 by assumption) (by omega) (by omega) (by omega)
       omega)
    | (have h := ptx_in (an := x9) (show MSX leastY_0o1 mostY_0o1 nodes_0o5 edges_0o5 y_0o1 bends_0o1 bendY_0o1 by assumption) ‹GKE _ _ _ _› (show PTX y_0o1 bends_0o1 bendY_0o1 tail_0o5 head_0o5 _ _ x9 by assumption) (by omega) (by omega) (by omega)
       omega)
    | (have h := ptx_in (an := x18) (show MSX leastY_0o1 mostY_0o1 nodes_0o5 edges_0o5 y_0o1 bends_0o1 bendY_0o1 by assumption) ‹GKE _ _ _ _› (show PTX y_0o1 bends_0o1 bendY_0o1 tail_0o5 head_0o5 _ _ x18 by assumption) (by omega) (by omega) (by omega)
       omega)
  
def o_Ho_drawLine_34 : or_T := (63, 19, [(1, (2, 0, 0, [0])), (2, (0, 0, 47, [])), (3, (0, 0, 0, [])), (5, (2, 0, 0, [3])), (6, (0, -40000000, 690000000, [])), (9, (0, -40000000, 690000000, [])), (12, (0, 1, 1, [])), (13, (0, 1, 1, [])), (14, (0, -40000000, 690000000, [])), (16, (0, 1, 1, [])), (17, (0, 1, 1, [])), (18, (0, -41000000, 1001000000, []))], [(20, [1, 5, 2, 17, 18], [60, 0, 5, 940, 3, 4, 6, 1007, 1008]), (1, [17, 3, 16], []), (20, [1, 14], [50, 2, 0, 17, 19, 2, 7, 0, 3, 2, 0, 17, 1, 1, 0, 2, 1, 1, 2, 0, 19]), (20, [1, 5, 2, 13, 14], [60, 0, 5, 933, 2, 4, 5, 1007, 1008]), (1, [13, 3, 12], []), (20, [1, 9], [50, 2, 0, 18, 20, 2, 7, 0, 3, 2, 0, 18, 1, 1, 0, 2, 1, 1, 2, 0, 20]), (20, [1, 5, 2, 3, 9], [60, 0, 5, 940, 3, 4, 6, 1007, 1008]), (20, [1, 6], [50, 2, 0, 17, 19, 2, 7, 0, 3, 2, 0, 17, 1, 1, 0, 2, 1, 1, 2, 0, 19]), (20, [1, 5, 2, 3, 6], [60, 0, 5, 933, 2, 4, 5, 1007, 1008]), (20, [1, 5], [60, 4, 3, 932, 17, 19, 1000, 1001, 2, 4, 5]), (20, [1, 5], [60, 4, 3, 939, 18, 20, 1000, 1001, 3, 4, 6]), (20, [5], [60, 2, 2, 596, 0, 1, 7, 8]), (20, [2, 5], [50, 1, 0, 1001, 2, 6, 0, 2, 0, 0, 1, 0, 0, 6, 4, 2, 1, 0, 0, 1, 2, 1, 1]), (20, [3], [50, 0, 0, 0, 2, 0, 0, 1, 0])], [], [], [(20, [1, 18], [50, 2, 0, 18, 20, 2, 7, 0, 3, 2, 0, 18, 1, 1, 0, 2, 1, 1, 2, 0, 20])], [], [])
theorem oo_Ho_drawLine_34 {kA : Nat → ClassId} : or_ok PRD kA GG o_Ho_drawLine_34 := by
  refine or_mk fun A ta ws vs hD hth hl => ?_
  intro t1 r1 t2 k2 t3 k3 t5 r5 t6 k6 t9 k9 t12 k12 t13 k13 t14 k14 t16 k16 t17 k17 t18 k18 f0 f1 f2 f3 f4 f5 f6 f7 f8 f9 f10 f11 f12 f13
  have kz_1_18 := fdq_200 hD hth r1
  have kz_1_20 := fdq_201 hD hth r1
  have kz_5_0 := fdq_21 hD hth r5
  have kz_5_1 := fdq_30 hD hth r5
  have nf0 : fc_1 PRD (20, [1, 18], [50, 2, 0, 18, 20, 2, 7, 0, 3, 2, 0, 18, 1, 1, 0, 2, 1, 1, 2, 0, 20]) ws (vs) := ⟨nf_in hl rfl, sgq_800 (vc_Ho_drawLine_34_0 (v_iv (n_v vs 2)) (v_iv (n_v vs 6)) (v_iv (n_v vs 9)) (v_iv (n_v vs 14)) (v_iv (n_v vs 17)) (v_iv (n_v vs 18)) (w_ei ws (w_ar ws (n_v vs 1) 3)) (w_ei ws (w_ar ws (n_v vs 1) 4)) (w_ei ws (w_ar ws (n_v vs 1) 6)) (w_ei ws (w_ar ws (n_v vs 5) 7)) (w_ei ws (w_ar ws (n_v vs 5) 8)) (w_fi ws (n_v vs 1) 17) (w_fi ws (n_v vs 1) 19) (w_ei ws (w_ar ws (n_v vs 1) 2)) (w_ei ws (w_ar ws (n_v vs 1) 5)) (w_fi ws (n_v vs 1) 18) (w_fi ws (n_v vs 1) 20) (w_fi ws (n_v vs 5) 0) (w_fi ws (n_v vs 5) 1) k2 k17 k18 (shm_344 f0) (shm_1491 f10) (shm_386 f11) (shm_387 f12) kz_1_18 kz_1_20 kz_5_0 kz_5_1)⟩
  refine ⟨(fun _ h => (by cases h)), [], trivial, ?_, (fun _ h => (by cases h))⟩
  rw [List.append_nil]
  exact List.forall_mem_cons.mpr ⟨⟨show (20 : Nat) < 100 from by decide, nf0⟩, (fun _ h => (by cases h))⟩
set_option maxHeartbeats 4000000 in
theorem vc_Ho_drawLine_35_0 (x2 : Int) (x6 : Int) (x9 : Int) (x13 : Int) (x14 : Int) (x_0o1 : Int → Int) (bends_0o1 : Int → Int) (bendX_0o1 : Int → Int) (tail_0o5 : Int → Int) (head_0o5 : Int → Int) (leastY_0o1 : Int) (mostY_0o1 : Int) (y_0o1 : Int → Int) (bendY_0o1 : Int → Int) (leastX_0o1 : Int) (mostX_0o1 : Int) (nodes_0o5 : Int) (edges_0o5 : Int) (k2 : 0 ≤ x2 ∧ x2 ≤ 47) (k13 : 1 ≤ x13 ∧ x13 ≤ 1) (k14 : (-41000000) ≤ x14 ∧ x14 ≤ 1001000000) (f0 : PTX (x_0o1) (bends_0o1) (bendX_0o1) (tail_0o5) (head_0o5) (x2) (x13) (x14)) (f6 : MSX (leastX_0o1) (mostX_0o1) (nodes_0o5) (edges_0o5) (x_0o1) (bends_0o1) (bendX_0o1)) (f8 : GKE (nodes_0o5) (edges_0o5) (tail_0o5) (head_0o5)) (f9 : (0 ≤ x2) ∧ ((x2 + 1) ≤ edges_0o5)) (kz_1_17 : (-41000000) ≤ leastX_0o1 ∧ leastX_0o1 ≤ 690000000) (kz_1_19 : (-40000000) ≤ mostX_0o1 ∧ mostX_0o1 ≤ 1001000000) (kz_5_0 : 0 ≤ nodes_0o5 ∧ nodes_0o5 ≤ 24) (kz_5_1 : 0 ≤ edges_0o5 ∧ edges_0o5 ≤ 48) : (leastX_0o1 ≤ x14) ∧ (x14 ≤ mostX_0o1) := by
  first
    | omega
    | assumption
    | (have h := ptx_in (an := x6) (show MSX leastX_0o1 mostX_0o1 nodes_0o5 edges_0o5 x_0o1 bends_0o1 bendX_0o1 by assumption) ‹GKE _ _ _ _› (show PTX x_0o1 bends_0o1 bendX_0o1 tail_0o5 head_0o5 _ _ x6 by assumption) (by omega) (by omega) (by omega)
       omega)
    | (have h := ptx_in (an := x14) (show MSX leastX_0o1 mostX_0o1 nodes_0o5 edges_0o5 x_0o1 bends_0o1 bendX_0o1 by assumption) ‹GKE _ _ _ _› (show PTX x_0o1 bends_0o1 bendX_0o1 tail_0o5 head_0o5 _ _ x14 by assumption) (by omega) (by omega) (by omega)
       omega)
    | (have h := ptx_in (an := x9) (show MSX leastY_0o1 mostY_0o1 nodes_0o5 edges_0o5 y_0o1 bends_0o1 bendY_0o1 by assumption) ‹GKE _ _ _ _› (show PTX y_0o1 bends_0o1 bendY_0o1 tail_0o5 head_0o5 _ _ x9 by assumption) (by omega) (by omega) (by omega)
       omega)
    | (have h := ptx_in (an := x18) (show MSX leastY_0o1 mostY_0o1 nodes_0o5 edges_0o5 y_0o1 bends_0o1 bendY_0o1 by assumption) ‹GKE _ _ _ _› (show PTX y_0o1 bends_0o1 bendY_0o1 tail_0o5 head_0o5 _ _ x18 by assumption) (by omega) (by omega) (by omega)
       omega)
  
def o_Ho_drawLine_35 : or_T := (45, 15, [(1, (2, 0, 0, [0])), (2, (0, 0, 47, [])), (3, (0, 0, 0, [])), (5, (2, 0, 0, [3])), (6, (0, -40000000, 690000000, [])), (9, (0, -40000000, 690000000, [])), (12, (0, 1, 1, [])), (13, (0, 1, 1, [])), (14, (0, -41000000, 1001000000, []))], [(20, [1, 5, 2, 13, 14], [60, 0, 5, 933, 2, 4, 5, 1007, 1008]), (1, [13, 3, 12], []), (20, [1, 9], [50, 2, 0, 18, 20, 2, 7, 0, 3, 2, 0, 18, 1, 1, 0, 2, 1, 1, 2, 0, 20]), (20, [1, 5, 2, 3, 9], [60, 0, 5, 940, 3, 4, 6, 1007, 1008]), (20, [1, 6], [50, 2, 0, 17, 19, 2, 7, 0, 3, 2, 0, 17, 1, 1, 0, 2, 1, 1, 2, 0, 19]), (20, [1, 5, 2, 3, 6], [60, 0, 5, 933, 2, 4, 5, 1007, 1008]), (20, [1, 5], [60, 4, 3, 932, 17, 19, 1000, 1001, 2, 4, 5]), (20, [1, 5], [60, 4, 3, 939, 18, 20, 1000, 1001, 3, 4, 6]), (20, [5], [60, 2, 2, 596, 0, 1, 7, 8]), (20, [2, 5], [50, 1, 0, 1001, 2, 6, 0, 2, 0, 0, 1, 0, 0, 6, 4, 2, 1, 0, 0, 1, 2, 1, 1]), (20, [3], [50, 0, 0, 0, 2, 0, 0, 1, 0])], [], [], [(20, [1, 14], [50, 2, 0, 17, 19, 2, 7, 0, 3, 2, 0, 17, 1, 1, 0, 2, 1, 1, 2, 0, 19])], [], [])
theorem oo_Ho_drawLine_35 {kA : Nat → ClassId} : or_ok PRD kA GG o_Ho_drawLine_35 := by
  refine or_mk fun A ta ws vs hD hth hl => ?_
  intro t1 r1 t2 k2 t3 k3 t5 r5 t6 k6 t9 k9 t12 k12 t13 k13 t14 k14 f0 f1 f2 f3 f4 f5 f6 f7 f8 f9 f10
  have kz_1_17 := fdq_198 hD hth r1
  have kz_1_19 := fdq_199 hD hth r1
  have kz_5_0 := fdq_21 hD hth r5
  have kz_5_1 := fdq_30 hD hth r5
  have nf0 : fc_1 PRD (20, [1, 14], [50, 2, 0, 17, 19, 2, 7, 0, 3, 2, 0, 17, 1, 1, 0, 2, 1, 1, 2, 0, 19]) ws (vs) := ⟨nf_in hl rfl, sgq_798 (vc_Ho_drawLine_35_0 (v_iv (n_v vs 2)) (v_iv (n_v vs 6)) (v_iv (n_v vs 9)) (v_iv (n_v vs 13)) (v_iv (n_v vs 14)) (w_ei ws (w_ar ws (n_v vs 1) 2)) (w_ei ws (w_ar ws (n_v vs 1) 4)) (w_ei ws (w_ar ws (n_v vs 1) 5)) (w_ei ws (w_ar ws (n_v vs 5) 7)) (w_ei ws (w_ar ws (n_v vs 5) 8)) (w_fi ws (n_v vs 1) 18) (w_fi ws (n_v vs 1) 20) (w_ei ws (w_ar ws (n_v vs 1) 3)) (w_ei ws (w_ar ws (n_v vs 1) 6)) (w_fi ws (n_v vs 1) 17) (w_fi ws (n_v vs 1) 19) (w_fi ws (n_v vs 5) 0) (w_fi ws (n_v vs 5) 1) k2 k13 k14 (shm_343 f0) (shm_1490 f6) (shm_386 f8) (shm_387 f9) kz_1_17 kz_1_19 kz_5_0 kz_5_1)⟩
  refine ⟨(fun _ h => (by cases h)), [], trivial, ?_, (fun _ h => (by cases h))⟩
  rw [List.append_nil]
  exact List.forall_mem_cons.mpr ⟨⟨show (20 : Nat) < 100 from by decide, nf0⟩, (fun _ h => (by cases h))⟩
set_option maxHeartbeats 4000000 in
theorem vc_Ho_drawLine_36_0 (x2 : Int) (x6 : Int) (x9 : Int) (x14 : Int) (x17 : Int) (x18 : Int) (y_0o1 : Int → Int) (bends_0o1 : Int → Int) (bendY_0o1 : Int → Int) (tail_0o5 : Int → Int) (head_0o5 : Int → Int) (leastX_0o1 : Int) (mostX_0o1 : Int) (x_0o1 : Int → Int) (bendX_0o1 : Int → Int) (leastY_0o1 : Int) (mostY_0o1 : Int) (nodes_0o5 : Int) (edges_0o5 : Int) (k2 : 0 ≤ x2 ∧ x2 ≤ 47) (k17 : 1 ≤ x17 ∧ x17 ≤ 1) (k18 : (-40000000) ≤ x18 ∧ x18 ≤ 690000000) (f0 : PTY (y_0o1) (bends_0o1) (bendY_0o1) (tail_0o5) (head_0o5) (x2) (x17) (x18)) (f10 : MSY (leastY_0o1) (mostY_0o1) (nodes_0o5) (edges_0o5) (y_0o1) (bends_0o1) (bendY_0o1)) (f11 : GKE (nodes_0o5) (edges_0o5) (tail_0o5) (head_0o5)) (f12 : (0 ≤ x2) ∧ ((x2 + 1) ≤ edges_0o5)) (kz_1_18 : (-41000000) ≤ leastY_0o1 ∧ leastY_0o1 ≤ 690000000) (kz_1_20 : (-40000000) ≤ mostY_0o1 ∧ mostY_0o1 ≤ 1001000000) (kz_5_0 : 0 ≤ nodes_0o5 ∧ nodes_0o5 ≤ 24) (kz_5_1 : 0 ≤ edges_0o5 ∧ edges_0o5 ≤ 48) : (leastY_0o1 ≤ x18) ∧ (x18 ≤ mostY_0o1) := by
  first
    | omega
    | assumption
    | (have h := ptx_in (an := x6) (show MSX leastX_0o1 mostX_0o1 nodes_0o5 edges_0o5 x_0o1 bends_0o1 bendX_0o1 by assumption) ‹GKE _ _ _ _› (show PTX x_0o1 bends_0o1 bendX_0o1 tail_0o5 head_0o5 _ _ x6 by assumption) (by omega) (by omega) (by omega)
       omega)
    | (have h := ptx_in (an := x14) (show MSX leastX_0o1 mostX_0o1 nodes_0o5 edges_0o5 x_0o1 bends_0o1 bendX_0o1 by assumption) ‹GKE _ _ _ _› (show PTX x_0o1 bends_0o1 bendX_0o1 tail_0o5 head_0o5 _ _ x14 by assumption) (by omega) (by omega) (by omega)
       omega)
    | (have h := ptx_in (an := x9) (show MSX leastY_0o1 mostY_0o1 nodes_0o5 edges_0o5 y_0o1 bends_0o1 bendY_0o1 by assumption) ‹GKE _ _ _ _› (show PTX y_0o1 bends_0o1 bendY_0o1 tail_0o5 head_0o5 _ _ x9 by assumption) (by omega) (by omega) (by omega)
       omega)
    | (have h := ptx_in (an := x18) (show MSX leastY_0o1 mostY_0o1 nodes_0o5 edges_0o5 y_0o1 bends_0o1 bendY_0o1 by assumption) ‹GKE _ _ _ _› (show PTX y_0o1 bends_0o1 bendY_0o1 tail_0o5 head_0o5 _ _ x18 by assumption) (by omega) (by omega) (by omega)
       omega)
  
def o_Ho_drawLine_36 : or_T := (63, 19, [(1, (2, 0, 0, [0])), (2, (0, 0, 47, [])), (3, (0, 0, 0, [])), (5, (2, 0, 0, [3])), (6, (0, -40000000, 690000000, [])), (9, (0, -40000000, 690000000, [])), (12, (0, 1, 1, [])), (13, (0, 1, 1, [])), (14, (0, -41000000, 1001000000, [])), (16, (0, 1, 1, [])), (17, (0, 1, 1, [])), (18, (0, -40000000, 690000000, []))], [(20, [1, 5, 2, 17, 18], [60, 0, 5, 940, 3, 4, 6, 1007, 1008]), (1, [17, 3, 16], []), (20, [1, 14], [50, 2, 0, 17, 19, 2, 7, 0, 3, 2, 0, 17, 1, 1, 0, 2, 1, 1, 2, 0, 19]), (20, [1, 5, 2, 13, 14], [60, 0, 5, 933, 2, 4, 5, 1007, 1008]), (1, [13, 3, 12], []), (20, [1, 9], [50, 2, 0, 18, 20, 2, 7, 0, 3, 2, 0, 18, 1, 1, 0, 2, 1, 1, 2, 0, 20]), (20, [1, 5, 2, 3, 9], [60, 0, 5, 940, 3, 4, 6, 1007, 1008]), (20, [1, 6], [50, 2, 0, 17, 19, 2, 7, 0, 3, 2, 0, 17, 1, 1, 0, 2, 1, 1, 2, 0, 19]), (20, [1, 5, 2, 3, 6], [60, 0, 5, 933, 2, 4, 5, 1007, 1008]), (20, [1, 5], [60, 4, 3, 932, 17, 19, 1000, 1001, 2, 4, 5]), (20, [1, 5], [60, 4, 3, 939, 18, 20, 1000, 1001, 3, 4, 6]), (20, [5], [60, 2, 2, 596, 0, 1, 7, 8]), (20, [2, 5], [50, 1, 0, 1001, 2, 6, 0, 2, 0, 0, 1, 0, 0, 6, 4, 2, 1, 0, 0, 1, 2, 1, 1]), (20, [3], [50, 0, 0, 0, 2, 0, 0, 1, 0])], [], [], [(20, [1, 18], [50, 2, 0, 18, 20, 2, 7, 0, 3, 2, 0, 18, 1, 1, 0, 2, 1, 1, 2, 0, 20])], [], [])
theorem oo_Ho_drawLine_36 {kA : Nat → ClassId} : or_ok PRD kA GG o_Ho_drawLine_36 := by
  refine or_mk fun A ta ws vs hD hth hl => ?_
  intro t1 r1 t2 k2 t3 k3 t5 r5 t6 k6 t9 k9 t12 k12 t13 k13 t14 k14 t16 k16 t17 k17 t18 k18 f0 f1 f2 f3 f4 f5 f6 f7 f8 f9 f10 f11 f12 f13
  have kz_1_18 := fdq_200 hD hth r1
  have kz_1_20 := fdq_201 hD hth r1
  have kz_5_0 := fdq_21 hD hth r5
  have kz_5_1 := fdq_30 hD hth r5
  have nf0 : fc_1 PRD (20, [1, 18], [50, 2, 0, 18, 20, 2, 7, 0, 3, 2, 0, 18, 1, 1, 0, 2, 1, 1, 2, 0, 20]) ws (vs) := ⟨nf_in hl rfl, sgq_800 (vc_Ho_drawLine_36_0 (v_iv (n_v vs 2)) (v_iv (n_v vs 6)) (v_iv (n_v vs 9)) (v_iv (n_v vs 14)) (v_iv (n_v vs 17)) (v_iv (n_v vs 18)) (w_ei ws (w_ar ws (n_v vs 1) 3)) (w_ei ws (w_ar ws (n_v vs 1) 4)) (w_ei ws (w_ar ws (n_v vs 1) 6)) (w_ei ws (w_ar ws (n_v vs 5) 7)) (w_ei ws (w_ar ws (n_v vs 5) 8)) (w_fi ws (n_v vs 1) 17) (w_fi ws (n_v vs 1) 19) (w_ei ws (w_ar ws (n_v vs 1) 2)) (w_ei ws (w_ar ws (n_v vs 1) 5)) (w_fi ws (n_v vs 1) 18) (w_fi ws (n_v vs 1) 20) (w_fi ws (n_v vs 5) 0) (w_fi ws (n_v vs 5) 1) k2 k17 k18 (shm_344 f0) (shm_1491 f10) (shm_386 f11) (shm_387 f12) kz_1_18 kz_1_20 kz_5_0 kz_5_1)⟩
  refine ⟨(fun _ h => (by cases h)), [], trivial, ?_, (fun _ h => (by cases h))⟩
  rw [List.append_nil]
  exact List.forall_mem_cons.mpr ⟨⟨show (20 : Nat) < 100 from by decide, nf0⟩, (fun _ h => (by cases h))⟩
set_option maxHeartbeats 4000000 in
theorem vc_Ho_drawLine_37_0 (x2 : Int) (x6 : Int) (x9 : Int) (x14 : Int) (x17 : Int) (x18 : Int) (y_0o1 : Int → Int) (bends_0o1 : Int → Int) (bendY_0o1 : Int → Int) (tail_0o5 : Int → Int) (head_0o5 : Int → Int) (leastX_0o1 : Int) (mostX_0o1 : Int) (x_0o1 : Int → Int) (bendX_0o1 : Int → Int) (leastY_0o1 : Int) (mostY_0o1 : Int) (nodes_0o5 : Int) (edges_0o5 : Int) (k2 : 0 ≤ x2 ∧ x2 ≤ 47) (k17 : 1 ≤ x17 ∧ x17 ≤ 1) (k18 : (-41000000) ≤ x18 ∧ x18 ≤ 1001000000) (f0 : PTY (y_0o1) (bends_0o1) (bendY_0o1) (tail_0o5) (head_0o5) (x2) (x17) (x18)) (f10 : MSY (leastY_0o1) (mostY_0o1) (nodes_0o5) (edges_0o5) (y_0o1) (bends_0o1) (bendY_0o1)) (f11 : GKE (nodes_0o5) (edges_0o5) (tail_0o5) (head_0o5)) (f12 : (0 ≤ x2) ∧ ((x2 + 1) ≤ edges_0o5)) (kz_1_18 : (-41000000) ≤ leastY_0o1 ∧ leastY_0o1 ≤ 690000000) (kz_1_20 : (-40000000) ≤ mostY_0o1 ∧ mostY_0o1 ≤ 1001000000) (kz_5_0 : 0 ≤ nodes_0o5 ∧ nodes_0o5 ≤ 24) (kz_5_1 : 0 ≤ edges_0o5 ∧ edges_0o5 ≤ 48) : (leastY_0o1 ≤ x18) ∧ (x18 ≤ mostY_0o1) := by
  first
    | omega
    | assumption
    | (have h := ptx_in (an := x6) (show MSX leastX_0o1 mostX_0o1 nodes_0o5 edges_0o5 x_0o1 bends_0o1 bendX_0o1 by assumption) ‹GKE _ _ _ _› (show PTX x_0o1 bends_0o1 bendX_0o1 tail_0o5 head_0o5 _ _ x6 by assumption) (by omega) (by omega) (by omega)
       omega)
    | (have h := ptx_in (an := x14) (show MSX leastX_0o1 mostX_0o1 nodes_0o5 edges_0o5 x_0o1 bends_0o1 bendX_0o1 by assumption) ‹GKE _ _ _ _› (show PTX x_0o1 bends_0o1 bendX_0o1 tail_0o5 head_0o5 _ _ x14 by assumption) (by omega) (by omega) (by omega)
       omega)
    | (have h := ptx_in (an := x9) (show MSX leastY_0o1 mostY_0o1 nodes_0o5 edges_0o5 y_0o1 bends_0o1 bendY_0o1 by assumption) ‹GKE _ _ _ _› (show PTX y_0o1 bends_0o1 bendY_0o1 tail_0o5 head_0o5 _ _ x9 by assumption) (by omega) (by omega) (by omega)
       omega)
    | (have h := ptx_in (an := x18) (show MSX leastY_0o1 mostY_0o1 nodes_0o5 edges_0o5 y_0o1 bends_0o1 bendY_0o1 by assumption) ‹GKE _ _ _ _› (show PTX y_0o1 bends_0o1 bendY_0o1 tail_0o5 head_0o5 _ _ x18 by assumption) (by omega) (by omega) (by omega)
       omega)
  
def o_Ho_drawLine_37 : or_T := (63, 19, [(1, (2, 0, 0, [0])), (2, (0, 0, 47, [])), (3, (0, 0, 0, [])), (5, (2, 0, 0, [3])), (6, (0, -40000000, 690000000, [])), (9, (0, -40000000, 690000000, [])), (12, (0, 1, 1, [])), (13, (0, 1, 1, [])), (14, (0, -41000000, 1001000000, [])), (16, (0, 1, 1, [])), (17, (0, 1, 1, [])), (18, (0, -41000000, 1001000000, []))], [(20, [1, 5, 2, 17, 18], [60, 0, 5, 940, 3, 4, 6, 1007, 1008]), (1, [17, 3, 16], []), (20, [1, 14], [50, 2, 0, 17, 19, 2, 7, 0, 3, 2, 0, 17, 1, 1, 0, 2, 1, 1, 2, 0, 19]), (20, [1, 5, 2, 13, 14], [60, 0, 5, 933, 2, 4, 5, 1007, 1008]), (1, [13, 3, 12], []), (20, [1, 9], [50, 2, 0, 18, 20, 2, 7, 0, 3, 2, 0, 18, 1, 1, 0, 2, 1, 1, 2, 0, 20]), (20, [1, 5, 2, 3, 9], [60, 0, 5, 940, 3, 4, 6, 1007, 1008]), (20, [1, 6], [50, 2, 0, 17, 19, 2, 7, 0, 3, 2, 0, 17, 1, 1, 0, 2, 1, 1, 2, 0, 19]), (20, [1, 5, 2, 3, 6], [60, 0, 5, 933, 2, 4, 5, 1007, 1008]), (20, [1, 5], [60, 4, 3, 932, 17, 19, 1000, 1001, 2, 4, 5]), (20, [1, 5], [60, 4, 3, 939, 18, 20, 1000, 1001, 3, 4, 6]), (20, [5], [60, 2, 2, 596, 0, 1, 7, 8]), (20, [2, 5], [50, 1, 0, 1001, 2, 6, 0, 2, 0, 0, 1, 0, 0, 6, 4, 2, 1, 0, 0, 1, 2, 1, 1]), (20, [3], [50, 0, 0, 0, 2, 0, 0, 1, 0])], [], [], [(20, [1, 18], [50, 2, 0, 18, 20, 2, 7, 0, 3, 2, 0, 18, 1, 1, 0, 2, 1, 1, 2, 0, 20])], [], [])
theorem oo_Ho_drawLine_37 {kA : Nat → ClassId} : or_ok PRD kA GG o_Ho_drawLine_37 := by
  refine or_mk fun A ta ws vs hD hth hl => ?_
  intro t1 r1 t2 k2 t3 k3 t5 r5 t6 k6 t9 k9 t12 k12 t13 k13 t14 k14 t16 k16 t17 k17 t18 k18 f0 f1 f2 f3 f4 f5 f6 f7 f8 f9 f10 f11 f12 f13
  have kz_1_18 := fdq_200 hD hth r1
  have kz_1_20 := fdq_201 hD hth r1
  have kz_5_0 := fdq_21 hD hth r5
  have kz_5_1 := fdq_30 hD hth r5
  have nf0 : fc_1 PRD (20, [1, 18], [50, 2, 0, 18, 20, 2, 7, 0, 3, 2, 0, 18, 1, 1, 0, 2, 1, 1, 2, 0, 20]) ws (vs) := ⟨nf_in hl rfl, sgq_800 (vc_Ho_drawLine_37_0 (v_iv (n_v vs 2)) (v_iv (n_v vs 6)) (v_iv (n_v vs 9)) (v_iv (n_v vs 14)) (v_iv (n_v vs 17)) (v_iv (n_v vs 18)) (w_ei ws (w_ar ws (n_v vs 1) 3)) (w_ei ws (w_ar ws (n_v vs 1) 4)) (w_ei ws (w_ar ws (n_v vs 1) 6)) (w_ei ws (w_ar ws (n_v vs 5) 7)) (w_ei ws (w_ar ws (n_v vs 5) 8)) (w_fi ws (n_v vs 1) 17) (w_fi ws (n_v vs 1) 19) (w_ei ws (w_ar ws (n_v vs 1) 2)) (w_ei ws (w_ar ws (n_v vs 1) 5)) (w_fi ws (n_v vs 1) 18) (w_fi ws (n_v vs 1) 20) (w_fi ws (n_v vs 5) 0) (w_fi ws (n_v vs 5) 1) k2 k17 k18 (shm_344 f0) (shm_1491 f10) (shm_386 f11) (shm_387 f12) kz_1_18 kz_1_20 kz_5_0 kz_5_1)⟩
  refine ⟨(fun _ h => (by cases h)), [], trivial, ?_, (fun _ h => (by cases h))⟩
  rw [List.append_nil]
  exact List.forall_mem_cons.mpr ⟨⟨show (20 : Nat) < 100 from by decide, nf0⟩, (fun _ h => (by cases h))⟩

def t_Ho_drawLine_ct : ct_L := [(1, 394, e_Dr_scaledX), (1, 400, e_Dr_scaledY), (1, 403, e_Ho_setDot), (1, 492, e_Dr_pointX), (1, 495, e_Dr_pointY), (222, 450, e_jMath_abs1_v164), (246, 450, e_jMath_abs1_v164), (255, 456, e_jMath_max1_v165), (405, 498, e_jMath_floorDiv1_v166), (405, 498, e_jMath_floorDiv1_v167), (405, 498, e_jMath_floorDiv1_v168), (405, 498, e_jMath_floorDiv1_v169), (405, 498, e_jMath_floorDiv1_v170), (405, 498, e_jMath_floorDiv1_v171), (405, 498, e_jMath_floorDiv1_v172), (405, 498, e_jMath_floorDiv1_v173), (405, 498, e_jMath_floorDiv1_v174), (405, 498, e_jMath_floorDiv1_v175), (405, 498, e_jMath_floorDiv1_v176), (405, 498, e_jMath_floorDiv1_v177), (405, 498, e_jMath_floorDiv1_v178), (405, 498, e_jMath_floorDiv1_v179), (405, 498, e_jMath_floorDiv1_v180), (405, 498, e_jMath_floorDiv1_v181), (405, 498, e_jMath_floorDiv1_v182), (405, 498, e_jMath_floorDiv1_v183), (405, 498, e_jMath_floorDiv1_v184), (405, 498, e_jMath_floorDiv1_v185), (405, 498, e_jMath_floorDiv1_v186), (405, 498, e_jMath_floorDiv1_v187), (405, 498, e_jMath_floorDiv1_v188), (405, 498, e_jMath_floorDiv1_v189), (480, 498, e_jMath_floorDiv1_v166), (480, 498, e_jMath_floorDiv1_v167), (480, 498, e_jMath_floorDiv1_v168), (480, 498, e_jMath_floorDiv1_v169), (480, 498, e_jMath_floorDiv1_v170), (480, 498, e_jMath_floorDiv1_v171), (480, 498, e_jMath_floorDiv1_v172), (480, 498, e_jMath_floorDiv1_v173), (480, 498, e_jMath_floorDiv1_v174), (480, 498, e_jMath_floorDiv1_v175), (480, 498, e_jMath_floorDiv1_v176), (480, 498, e_jMath_floorDiv1_v177), (480, 498, e_jMath_floorDiv1_v178), (480, 498, e_jMath_floorDiv1_v179), (480, 498, e_jMath_floorDiv1_v180), (480, 498, e_jMath_floorDiv1_v181), (480, 498, e_jMath_floorDiv1_v182), (480, 498, e_jMath_floorDiv1_v183), (480, 498, e_jMath_floorDiv1_v184), (480, 498, e_jMath_floorDiv1_v185), (480, 498, e_jMath_floorDiv1_v186), (480, 498, e_jMath_floorDiv1_v187), (480, 498, e_jMath_floorDiv1_v188), (480, 498, e_jMath_floorDiv1_v189)]
def n_Ho_drawLine_a0 : an_T := (108, [(0, (2, 0, 0, [12])), (1, (2, 0, 0, [0])), (2, (0, 0, 47, [])), (3, (0, 0, 24, [])), (4, (0, 1, 256, [])), (5, (0, (Int.negSucc 62), 63, [])), (6, (0, (Int.negSucc 62), 63, [])), (7, (0, (Int.negSucc 62), 63, [])), (8, (0, (Int.negSucc 62), 63, [])), (9, (0, 1, 126, [])), (10, (0, 0, 127, []))], [], (0, 0), [(0, 0, 99892), (1, 10, 127), (0, 0, 100000)], [(10, 9, (Int.negSucc 999999999999), 1)], [], [], 0, [], [])
def n_Ho_drawLine_an : List an_T := [n_Ho_drawLine_a0]
def x_Ho_drawLine_ft : ft_L := [(76, 12, 14), (79, 12, 15)]
def x_Ho_drawLine_pt : pt_L := []
def x_Ho_drawLine_kt : kt_L := []
def x_Ho_drawLine_nt : nt_L := []
def x_Ho_drawLine_ot : List or_T := [o_Ho_drawLine_0, o_Ho_drawLine_1, o_Ho_drawLine_2, o_Ho_drawLine_3, o_Ho_drawLine_4, o_Ho_drawLine_5, o_Ho_drawLine_6, o_Ho_drawLine_7, o_Ho_drawLine_8, o_Ho_drawLine_9, o_Ho_drawLine_10, o_Ho_drawLine_11, o_Ho_drawLine_12, o_Ho_drawLine_13, o_Ho_drawLine_14, o_Ho_drawLine_15, o_Ho_drawLine_16, o_Ho_drawLine_17, o_Ho_drawLine_18, o_Ho_drawLine_19, o_Ho_drawLine_20, o_Ho_drawLine_21, o_Ho_drawLine_22, o_Ho_drawLine_23, o_Ho_drawLine_24, o_Ho_drawLine_25, o_Ho_drawLine_26, o_Ho_drawLine_27, o_Ho_drawLine_28, o_Ho_drawLine_29, o_Ho_drawLine_30, o_Ho_drawLine_31, o_Ho_drawLine_32, o_Ho_drawLine_33, o_Ho_drawLine_34, o_Ho_drawLine_35, o_Ho_drawLine_36, o_Ho_drawLine_37]
set_option maxRecDepth 100000 in
theorem g_Ho_drawLine_0 : chk_an b_Ho_drawLine 13 none e_Ho_drawLine GG x_Ho_drawLine_ft x_Ho_drawLine_pt t_Ho_drawLine_ct x_Ho_drawLine_kt x_Ho_drawLine_nt n_Ho_drawLine_an x_Ho_drawLine_ot 3 2880 n_Ho_drawLine_a0 = true := by decide +kernel
set_option maxRecDepth 100000 in
theorem g_Ho_drawLine_s : chk b_Ho_drawLine 13 none e_Ho_drawLine GG x_Ho_drawLine_ft x_Ho_drawLine_pt t_Ho_drawLine_ct x_Ho_drawLine_kt x_Ho_drawLine_nt n_Ho_drawLine_an x_Ho_drawLine_ot 100000 (List.replicate 3 me_0) 2880 true (0, en_y e_Ho_drawLine, 0, 0, an_fs x_Ho_drawLine_ot e_Ho_drawLine.2.2.2.2.2.2.2.2.2.2.1) = true := by decide +kernel
end
section

set_option maxRecDepth 100000 in
theorem c_Ho_drawLine {l : Launch} {D : va_G} {kA : Nat → ClassId} (h_Dr_pointX : ct_ok PRD l D kA GG y_Dr_pointX z_Dr_pointX e_Dr_pointX) (h_Dr_pointY : ct_ok PRD l D kA GG y_Dr_pointY z_Dr_pointY e_Dr_pointY) (h_Dr_scaledX : ct_ok PRD l D kA GG y_Dr_scaledX z_Dr_scaledX e_Dr_scaledX) (h_Dr_scaledY : ct_ok PRD l D kA GG y_Dr_scaledY z_Dr_scaledY e_Dr_scaledY) (h_Ho_setDot : ct_ok PRD l D kA GG y_Ho_setDot z_Ho_setDot e_Ho_setDot) : ct_ok PRD l D kA GG y_Ho_drawLine z_Ho_drawLine e_Ho_drawLine := chk_all_ok (FT := [(76, 12, 14), (79, 12, 15)]) (PT := []) (CT := t_Ho_drawLine_ct) (KT := []) (NT := []) (AN := n_Ho_drawLine_an) (OT := [o_Ho_drawLine_0, o_Ho_drawLine_1, o_Ho_drawLine_2, o_Ho_drawLine_3, o_Ho_drawLine_4, o_Ho_drawLine_5, o_Ho_drawLine_6, o_Ho_drawLine_7, o_Ho_drawLine_8, o_Ho_drawLine_9, o_Ho_drawLine_10, o_Ho_drawLine_11, o_Ho_drawLine_12, o_Ho_drawLine_13, o_Ho_drawLine_14, o_Ho_drawLine_15, o_Ho_drawLine_16, o_Ho_drawLine_17, o_Ho_drawLine_18, o_Ho_drawLine_19, o_Ho_drawLine_20, o_Ho_drawLine_21, o_Ho_drawLine_22, o_Ho_drawLine_23, o_Ho_drawLine_24, o_Ho_drawLine_25, o_Ho_drawLine_26, o_Ho_drawLine_27, o_Ho_drawLine_28, o_Ho_drawLine_29, o_Ho_drawLine_30, o_Ho_drawLine_31, o_Ho_drawLine_32, o_Ho_drawLine_33, o_Ho_drawLine_34, o_Ho_drawLine_35, o_Ho_drawLine_36, o_Ho_drawLine_37]) 3 2880 (List.forall_mem_cons.mpr ⟨oo_Ho_drawLine_0, List.forall_mem_cons.mpr ⟨oo_Ho_drawLine_1, List.forall_mem_cons.mpr ⟨oo_Ho_drawLine_2, List.forall_mem_cons.mpr ⟨oo_Ho_drawLine_3, List.forall_mem_cons.mpr ⟨oo_Ho_drawLine_4, List.forall_mem_cons.mpr ⟨oo_Ho_drawLine_5, List.forall_mem_cons.mpr ⟨oo_Ho_drawLine_6, List.forall_mem_cons.mpr ⟨oo_Ho_drawLine_7, List.forall_mem_cons.mpr ⟨oo_Ho_drawLine_8, List.forall_mem_cons.mpr ⟨oo_Ho_drawLine_9, List.forall_mem_cons.mpr ⟨oo_Ho_drawLine_10, List.forall_mem_cons.mpr ⟨oo_Ho_drawLine_11, List.forall_mem_cons.mpr ⟨oo_Ho_drawLine_12, List.forall_mem_cons.mpr ⟨oo_Ho_drawLine_13, List.forall_mem_cons.mpr ⟨oo_Ho_drawLine_14, List.forall_mem_cons.mpr ⟨oo_Ho_drawLine_15, List.forall_mem_cons.mpr ⟨oo_Ho_drawLine_16, List.forall_mem_cons.mpr ⟨oo_Ho_drawLine_17, List.forall_mem_cons.mpr ⟨oo_Ho_drawLine_18, List.forall_mem_cons.mpr ⟨oo_Ho_drawLine_19, List.forall_mem_cons.mpr ⟨oo_Ho_drawLine_20, List.forall_mem_cons.mpr ⟨oo_Ho_drawLine_21, List.forall_mem_cons.mpr ⟨oo_Ho_drawLine_22, List.forall_mem_cons.mpr ⟨oo_Ho_drawLine_23, List.forall_mem_cons.mpr ⟨oo_Ho_drawLine_24, List.forall_mem_cons.mpr ⟨oo_Ho_drawLine_25, List.forall_mem_cons.mpr ⟨oo_Ho_drawLine_26, List.forall_mem_cons.mpr ⟨oo_Ho_drawLine_27, List.forall_mem_cons.mpr ⟨oo_Ho_drawLine_28, List.forall_mem_cons.mpr ⟨oo_Ho_drawLine_29, List.forall_mem_cons.mpr ⟨oo_Ho_drawLine_30, List.forall_mem_cons.mpr ⟨oo_Ho_drawLine_31, List.forall_mem_cons.mpr ⟨oo_Ho_drawLine_32, List.forall_mem_cons.mpr ⟨oo_Ho_drawLine_33, List.forall_mem_cons.mpr ⟨oo_Ho_drawLine_34, List.forall_mem_cons.mpr ⟨oo_Ho_drawLine_35, List.forall_mem_cons.mpr ⟨oo_Ho_drawLine_36, List.forall_mem_cons.mpr ⟨oo_Ho_drawLine_37, List.forall_mem_nil _⟩⟩⟩⟩⟩⟩⟩⟩⟩⟩⟩⟩⟩⟩⟩⟩⟩⟩⟩⟩⟩⟩⟩⟩⟩⟩⟩⟩⟩⟩⟩⟩⟩⟩⟩⟩⟩⟩) (by decide +kernel) ⟨List.forall_mem_cons.mpr ⟨gf_Ho_76, List.forall_mem_cons.mpr ⟨gf_Ho_79, List.forall_mem_nil _⟩⟩, List.forall_mem_nil _, List.forall_mem_cons.mpr ⟨cl_virtual (y := y_Dr_scaledX) (ci := 0) rfl rfl ⟨_, _, rfl⟩ (by decide +kernel) h_Dr_scaledX wm_2395 wm_8 wm_2392 wm_2393 wm_2394 ⟨by decide, by decide, by decide +kernel⟩ (by decide), List.forall_mem_cons.mpr ⟨cl_virtual (y := y_Dr_scaledY) (ci := 0) rfl rfl ⟨_, _, rfl⟩ (by decide +kernel) h_Dr_scaledY wm_2399 wm_8 wm_2396 wm_2397 wm_2398 ⟨by decide, by decide, by decide +kernel⟩ (by decide), List.forall_mem_cons.mpr ⟨cl_virtual (y := y_Ho_setDot) (ci := 12) rfl rfl ⟨_, _, rfl⟩ (by decide +kernel) h_Ho_setDot wm_2403 wm_1 wm_2400 wm_2402 wv_12_7 ⟨by decide, by decide, by decide +kernel⟩ (by decide), List.forall_mem_cons.mpr ⟨cl_virtual (y := y_Dr_pointX) (ci := 0) rfl rfl ⟨_, _, rfl⟩ (by decide +kernel) h_Dr_pointX wm_1986 wm_8 wm_2377 wm_1984 wm_1985 ⟨by decide, by decide, by decide +kernel⟩ (by decide), List.forall_mem_cons.mpr ⟨cl_virtual (y := y_Dr_pointY) (ci := 0) rfl rfl ⟨_, _, rfl⟩ (by decide +kernel) h_Dr_pointY wm_1991 wm_8 wm_2378 wm_1989 wm_1990 ⟨by decide, by decide, by decide +kernel⟩ (by decide), List.forall_mem_cons.mpr ⟨cl_static (y := y_jMath_abs1) c_jMath_abs1_v164 wm_1811 wm_10 wm_2355 wm_1810 ⟨by decide, by decide, by decide +kernel⟩ (by decide), List.forall_mem_cons.mpr ⟨cl_static (y := y_jMath_abs1) c_jMath_abs1_v164 wm_1811 wm_10 wm_2355 wm_1810 ⟨by decide, by decide, by decide +kernel⟩ (by decide), List.forall_mem_cons.mpr ⟨cl_static (y := y_jMath_max1) c_jMath_max1_v165 wm_836 wm_10 wm_2357 wm_835 ⟨by decide, by decide, by decide +kernel⟩ (by decide), List.forall_mem_cons.mpr ⟨cl_static (y := y_jMath_floorDiv1) c_jMath_floorDiv1_v166 wm_1617 wm_10 wm_2404 wm_1616 ⟨by decide, by decide, by decide +kernel⟩ (by decide), List.forall_mem_cons.mpr ⟨cl_static (y := y_jMath_floorDiv1) c_jMath_floorDiv1_v167 wm_1617 wm_10 wm_2404 wm_1616 ⟨by decide, by decide, by decide +kernel⟩ (by decide), List.forall_mem_cons.mpr ⟨cl_static (y := y_jMath_floorDiv1) c_jMath_floorDiv1_v168 wm_1617 wm_10 wm_2404 wm_1616 ⟨by decide, by decide, by decide +kernel⟩ (by decide), List.forall_mem_cons.mpr ⟨cl_static (y := y_jMath_floorDiv1) c_jMath_floorDiv1_v169 wm_1617 wm_10 wm_2404 wm_1616 ⟨by decide, by decide, by decide +kernel⟩ (by decide), List.forall_mem_cons.mpr ⟨cl_static (y := y_jMath_floorDiv1) c_jMath_floorDiv1_v170 wm_1617 wm_10 wm_2404 wm_1616 ⟨by decide, by decide, by decide +kernel⟩ (by decide), List.forall_mem_cons.mpr ⟨cl_static (y := y_jMath_floorDiv1) c_jMath_floorDiv1_v171 wm_1617 wm_10 wm_2404 wm_1616 ⟨by decide, by decide, by decide +kernel⟩ (by decide), List.forall_mem_cons.mpr ⟨cl_static (y := y_jMath_floorDiv1) c_jMath_floorDiv1_v172 wm_1617 wm_10 wm_2404 wm_1616 ⟨by decide, by decide, by decide +kernel⟩ (by decide), List.forall_mem_cons.mpr ⟨cl_static (y := y_jMath_floorDiv1) c_jMath_floorDiv1_v173 wm_1617 wm_10 wm_2404 wm_1616 ⟨by decide, by decide, by decide +kernel⟩ (by decide), List.forall_mem_cons.mpr ⟨cl_static (y := y_jMath_floorDiv1) c_jMath_floorDiv1_v174 wm_1617 wm_10 wm_2404 wm_1616 ⟨by decide, by decide, by decide +kernel⟩ (by decide), List.forall_mem_cons.mpr ⟨cl_static (y := y_jMath_floorDiv1) c_jMath_floorDiv1_v175 wm_1617 wm_10 wm_2404 wm_1616 ⟨by decide, by decide, by decide +kernel⟩ (by decide), List.forall_mem_cons.mpr ⟨cl_static (y := y_jMath_floorDiv1) c_jMath_floorDiv1_v176 wm_1617 wm_10 wm_2404 wm_1616 ⟨by decide, by decide, by decide +kernel⟩ (by decide), List.forall_mem_cons.mpr ⟨cl_static (y := y_jMath_floorDiv1) c_jMath_floorDiv1_v177 wm_1617 wm_10 wm_2404 wm_1616 ⟨by decide, by decide, by decide +kernel⟩ (by decide), List.forall_mem_cons.mpr ⟨cl_static (y := y_jMath_floorDiv1) c_jMath_floorDiv1_v178 wm_1617 wm_10 wm_2404 wm_1616 ⟨by decide, by decide, by decide +kernel⟩ (by decide), List.forall_mem_cons.mpr ⟨cl_static (y := y_jMath_floorDiv1) c_jMath_floorDiv1_v179 wm_1617 wm_10 wm_2404 wm_1616 ⟨by decide, by decide, by decide +kernel⟩ (by decide), List.forall_mem_cons.mpr ⟨cl_static (y := y_jMath_floorDiv1) c_jMath_floorDiv1_v180 wm_1617 wm_10 wm_2404 wm_1616 ⟨by decide, by decide, by decide +kernel⟩ (by decide), List.forall_mem_cons.mpr ⟨cl_static (y := y_jMath_floorDiv1) c_jMath_floorDiv1_v181 wm_1617 wm_10 wm_2404 wm_1616 ⟨by decide, by decide, by decide +kernel⟩ (by decide), List.forall_mem_cons.mpr ⟨cl_static (y := y_jMath_floorDiv1) c_jMath_floorDiv1_v182 wm_1617 wm_10 wm_2404 wm_1616 ⟨by decide, by decide, by decide +kernel⟩ (by decide), List.forall_mem_cons.mpr ⟨cl_static (y := y_jMath_floorDiv1) c_jMath_floorDiv1_v183 wm_1617 wm_10 wm_2404 wm_1616 ⟨by decide, by decide, by decide +kernel⟩ (by decide), List.forall_mem_cons.mpr ⟨cl_static (y := y_jMath_floorDiv1) c_jMath_floorDiv1_v184 wm_1617 wm_10 wm_2404 wm_1616 ⟨by decide, by decide, by decide +kernel⟩ (by decide), List.forall_mem_cons.mpr ⟨cl_static (y := y_jMath_floorDiv1) c_jMath_floorDiv1_v185 wm_1617 wm_10 wm_2404 wm_1616 ⟨by decide, by decide, by decide +kernel⟩ (by decide), List.forall_mem_cons.mpr ⟨cl_static (y := y_jMath_floorDiv1) c_jMath_floorDiv1_v186 wm_1617 wm_10 wm_2404 wm_1616 ⟨by decide, by decide, by decide +kernel⟩ (by decide), List.forall_mem_cons.mpr ⟨cl_static (y := y_jMath_floorDiv1) c_jMath_floorDiv1_v187 wm_1617 wm_10 wm_2404 wm_1616 ⟨by decide, by decide, by decide +kernel⟩ (by decide), List.forall_mem_cons.mpr ⟨cl_static (y := y_jMath_floorDiv1) c_jMath_floorDiv1_v188 wm_1617 wm_10 wm_2404 wm_1616 ⟨by decide, by decide, by decide +kernel⟩ (by decide), List.forall_mem_cons.mpr ⟨cl_static (y := y_jMath_floorDiv1) c_jMath_floorDiv1_v189 wm_1617 wm_10 wm_2404 wm_1616 ⟨by decide, by decide, by decide +kernel⟩ (by decide), List.forall_mem_cons.mpr ⟨cl_static (y := y_jMath_floorDiv1) c_jMath_floorDiv1_v166 wm_1617 wm_10 wm_2404 wm_1616 ⟨by decide, by decide, by decide +kernel⟩ (by decide), List.forall_mem_cons.mpr ⟨cl_static (y := y_jMath_floorDiv1) c_jMath_floorDiv1_v167 wm_1617 wm_10 wm_2404 wm_1616 ⟨by decide, by decide, by decide +kernel⟩ (by decide), List.forall_mem_cons.mpr ⟨cl_static (y := y_jMath_floorDiv1) c_jMath_floorDiv1_v168 wm_1617 wm_10 wm_2404 wm_1616 ⟨by decide, by decide, by decide +kernel⟩ (by decide), List.forall_mem_cons.mpr ⟨cl_static (y := y_jMath_floorDiv1) c_jMath_floorDiv1_v169 wm_1617 wm_10 wm_2404 wm_1616 ⟨by decide, by decide, by decide +kernel⟩ (by decide), List.forall_mem_cons.mpr ⟨cl_static (y := y_jMath_floorDiv1) c_jMath_floorDiv1_v170 wm_1617 wm_10 wm_2404 wm_1616 ⟨by decide, by decide, by decide +kernel⟩ (by decide), List.forall_mem_cons.mpr ⟨cl_static (y := y_jMath_floorDiv1) c_jMath_floorDiv1_v171 wm_1617 wm_10 wm_2404 wm_1616 ⟨by decide, by decide, by decide +kernel⟩ (by decide), List.forall_mem_cons.mpr ⟨cl_static (y := y_jMath_floorDiv1) c_jMath_floorDiv1_v172 wm_1617 wm_10 wm_2404 wm_1616 ⟨by decide, by decide, by decide +kernel⟩ (by decide), List.forall_mem_cons.mpr ⟨cl_static (y := y_jMath_floorDiv1) c_jMath_floorDiv1_v173 wm_1617 wm_10 wm_2404 wm_1616 ⟨by decide, by decide, by decide +kernel⟩ (by decide), List.forall_mem_cons.mpr ⟨cl_static (y := y_jMath_floorDiv1) c_jMath_floorDiv1_v174 wm_1617 wm_10 wm_2404 wm_1616 ⟨by decide, by decide, by decide +kernel⟩ (by decide), List.forall_mem_cons.mpr ⟨cl_static (y := y_jMath_floorDiv1) c_jMath_floorDiv1_v175 wm_1617 wm_10 wm_2404 wm_1616 ⟨by decide, by decide, by decide +kernel⟩ (by decide), List.forall_mem_cons.mpr ⟨cl_static (y := y_jMath_floorDiv1) c_jMath_floorDiv1_v176 wm_1617 wm_10 wm_2404 wm_1616 ⟨by decide, by decide, by decide +kernel⟩ (by decide), List.forall_mem_cons.mpr ⟨cl_static (y := y_jMath_floorDiv1) c_jMath_floorDiv1_v177 wm_1617 wm_10 wm_2404 wm_1616 ⟨by decide, by decide, by decide +kernel⟩ (by decide), List.forall_mem_cons.mpr ⟨cl_static (y := y_jMath_floorDiv1) c_jMath_floorDiv1_v178 wm_1617 wm_10 wm_2404 wm_1616 ⟨by decide, by decide, by decide +kernel⟩ (by decide), List.forall_mem_cons.mpr ⟨cl_static (y := y_jMath_floorDiv1) c_jMath_floorDiv1_v179 wm_1617 wm_10 wm_2404 wm_1616 ⟨by decide, by decide, by decide +kernel⟩ (by decide), List.forall_mem_cons.mpr ⟨cl_static (y := y_jMath_floorDiv1) c_jMath_floorDiv1_v180 wm_1617 wm_10 wm_2404 wm_1616 ⟨by decide, by decide, by decide +kernel⟩ (by decide), List.forall_mem_cons.mpr ⟨cl_static (y := y_jMath_floorDiv1) c_jMath_floorDiv1_v181 wm_1617 wm_10 wm_2404 wm_1616 ⟨by decide, by decide, by decide +kernel⟩ (by decide), List.forall_mem_cons.mpr ⟨cl_static (y := y_jMath_floorDiv1) c_jMath_floorDiv1_v182 wm_1617 wm_10 wm_2404 wm_1616 ⟨by decide, by decide, by decide +kernel⟩ (by decide), List.forall_mem_cons.mpr ⟨cl_static (y := y_jMath_floorDiv1) c_jMath_floorDiv1_v183 wm_1617 wm_10 wm_2404 wm_1616 ⟨by decide, by decide, by decide +kernel⟩ (by decide), List.forall_mem_cons.mpr ⟨cl_static (y := y_jMath_floorDiv1) c_jMath_floorDiv1_v184 wm_1617 wm_10 wm_2404 wm_1616 ⟨by decide, by decide, by decide +kernel⟩ (by decide), List.forall_mem_cons.mpr ⟨cl_static (y := y_jMath_floorDiv1) c_jMath_floorDiv1_v185 wm_1617 wm_10 wm_2404 wm_1616 ⟨by decide, by decide, by decide +kernel⟩ (by decide), List.forall_mem_cons.mpr ⟨cl_static (y := y_jMath_floorDiv1) c_jMath_floorDiv1_v186 wm_1617 wm_10 wm_2404 wm_1616 ⟨by decide, by decide, by decide +kernel⟩ (by decide), List.forall_mem_cons.mpr ⟨cl_static (y := y_jMath_floorDiv1) c_jMath_floorDiv1_v187 wm_1617 wm_10 wm_2404 wm_1616 ⟨by decide, by decide, by decide +kernel⟩ (by decide), List.forall_mem_cons.mpr ⟨cl_static (y := y_jMath_floorDiv1) c_jMath_floorDiv1_v188 wm_1617 wm_10 wm_2404 wm_1616 ⟨by decide, by decide, by decide +kernel⟩ (by decide), List.forall_mem_cons.mpr ⟨cl_static (y := y_jMath_floorDiv1) c_jMath_floorDiv1_v189 wm_1617 wm_10 wm_2404 wm_1616 ⟨by decide, by decide, by decide +kernel⟩ (by decide), List.forall_mem_nil _⟩⟩⟩⟩⟩⟩⟩⟩⟩⟩⟩⟩⟩⟩⟩⟩⟩⟩⟩⟩⟩⟩⟩⟩⟩⟩⟩⟩⟩⟩⟩⟩⟩⟩⟩⟩⟩⟩⟩⟩⟩⟩⟩⟩⟩⟩⟩⟩⟩⟩⟩⟩⟩⟩⟩⟩, List.forall_mem_nil _, List.forall_mem_nil _, GG_pl⟩ (chk_mk (by decide +kernel) (List.forall_mem_cons.mpr ⟨g_Ho_drawLine_0, List.forall_mem_nil _⟩) g_Ho_drawLine_s)
end
