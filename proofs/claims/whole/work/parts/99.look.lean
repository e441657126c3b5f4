theorem zz_one : lw_tbl.length = lw_tbl.length := rfl
