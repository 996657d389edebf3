theorem wl_law : ∀ w ∈ wsL_law, w ∈ lw_tbl := sorry
