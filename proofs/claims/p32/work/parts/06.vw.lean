abbrev vwCl : List vw_C := [(RX1, TX1, 7), (RX2, TX2, 4), (RX3, TX3, 13), (RX4, TX4, 4), (RX5, TX5, 2), (RX6, TX6, 5), (RX7, TX7, 1), (RX8, TX8, 12), (RX9, TX9, 43)]
