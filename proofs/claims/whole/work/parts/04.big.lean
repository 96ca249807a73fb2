/-! the words that stay true wherever a method is called -/
def BIG : List Cond := lw_tbl.filter goodWord
