theorem dLw_1418 : decode code 1418 = .ok (.aload_n 2, 1) := by decide +kernel
theorem dLw_1419 : decode code 1419 = .ok (.aload_n 0, 1) := by decide +kernel
theorem dLw_1420 : decode code 1420 = .ok (.iload_n 3, 1) := by decide +kernel
theorem dLw_1421 : decode code 1421 = .ok (.iconst 1, 1) := by decide +kernel
theorem dLw_1422 : decode code 1422 = .ok (.iadd, 1) := by decide +kernel
theorem dLw_1423 : decode code 1423 = .ok (.iaload, 1) := by decide +kernel
theorem dLw_1424 : decode code 1424 = .ok (.aload_n 0, 1) := by decide +kernel
theorem dLw_1425 : decode code 1425 = .ok (.iload_n 3, 1) := by decide +kernel
theorem dLw_1426 : decode code 1426 = .ok (.iconst 2, 1) := by decide +kernel
theorem dLw_1427 : decode code 1427 = .ok (.iadd, 1) := by decide +kernel
theorem dLw_1428 : decode code 1428 = .ok (.iaload, 1) := by decide +kernel
theorem dLw_1429 : decode code 1429 = .ok (.aload_n 0, 1) := by decide +kernel
theorem dLw_1430 : decode code 1430 = .ok (.iload_n 3, 1) := by decide +kernel
theorem dLw_1431 : decode code 1431 = .ok (.iconst 3, 1) := by decide +kernel
theorem dLw_1432 : decode code 1432 = .ok (.iadd, 1) := by decide +kernel
theorem dLw_1433 : decode code 1433 = .ok (.iaload, 1) := by decide +kernel
theorem dLw_1434 : decode code 1434 = .ok (.ifCond .eq 7, 3) := by decide +kernel
theorem dLw_1437 : decode code 1437 = .ok (.iconst 1, 1) := by decide +kernel
theorem dLw_1438 : decode code 1438 = .ok (.goto 4, 3) := by decide +kernel
theorem dLw_1441 : decode code 1441 = .ok (.iconst 0, 1) := by decide +kernel
theorem dLw_1442 : decode code 1442 = .ok (.invokevirtual 159, 3) := by decide +kernel
theorem dLw_1445 : decode code 1445 = .ok (.lcmp, 1) := by decide +kernel
theorem dLw_1446 : decode code 1446 = .ok (.ifCond .eq 252, 3) := by decide +kernel
theorem dLw_1449 : decode code 1449 = .ok (.iconst 0, 1) := by decide +kernel
theorem dLw_1450 : decode code 1450 = .ok (.ireturn, 1) := by decide +kernel
theorem dLw_1451 : decode code 1451 = .ok (.aload_n 1, 1) := by decide +kernel
theorem dLw_1452 : decode code 1452 = .ok (.aload_n 0, 1) := by decide +kernel
theorem dLw_1453 : decode code 1453 = .ok (.iload_n 3, 1) := by decide +kernel
theorem dLw_1454 : decode code 1454 = .ok (.iconst 1, 1) := by decide +kernel
theorem dLw_1455 : decode code 1455 = .ok (.iadd, 1) := by decide +kernel
theorem dLw_1456 : decode code 1456 = .ok (.iaload, 1) := by decide +kernel
theorem dLw_1457 : decode code 1457 = .ok (.aload_n 0, 1) := by decide +kernel
theorem dLw_1458 : decode code 1458 = .ok (.iload_n 3, 1) := by decide +kernel
theorem dLw_1459 : decode code 1459 = .ok (.iconst 2, 1) := by decide +kernel
theorem dLw_1460 : decode code 1460 = .ok (.iadd, 1) := by decide +kernel
theorem dLw_1461 : decode code 1461 = .ok (.iaload, 1) := by decide +kernel
theorem dLw_1462 : decode code 1462 = .ok (.aload_n 0, 1) := by decide +kernel
theorem dLw_1463 : decode code 1463 = .ok (.iload_n 3, 1) := by decide +kernel
theorem dLw_1464 : decode code 1464 = .ok (.iconst 3, 1) := by decide +kernel
theorem dLw_1465 : decode code 1465 = .ok (.iadd, 1) := by decide +kernel
theorem dLw_1466 : decode code 1466 = .ok (.iaload, 1) := by decide +kernel
theorem dLw_1467 : decode code 1467 = .ok (.aload_n 0, 1) := by decide +kernel
theorem dLw_1468 : decode code 1468 = .ok (.iload_n 3, 1) := by decide +kernel
theorem dLw_1469 : decode code 1469 = .ok (.iconst 4, 1) := by decide +kernel
theorem dLw_1470 : decode code 1470 = .ok (.iadd, 1) := by decide +kernel
theorem dLw_1471 : decode code 1471 = .ok (.iaload, 1) := by decide +kernel
theorem dLw_1472 : decode code 1472 = .ok (.invokevirtual 160, 3) := by decide +kernel
theorem dLw_1475 : decode code 1475 = .ok (.aload_n 2, 1) := by decide +kernel
theorem dLw_1476 : decode code 1476 = .ok (.aload_n 0, 1) := by decide +kernel
theorem dLw_1477 : decode code 1477 = .ok (.iload_n 3, 1) := by decide +kernel
theorem dLw_1478 : decode code 1478 = .ok (.iconst 1, 1) := by decide +kernel
theorem dLw_1479 : decode code 1479 = .ok (.iadd, 1) := by decide +kernel
theorem dLw_1480 : decode code 1480 = .ok (.iaload, 1) := by decide +kernel
theorem dLw_1481 : decode code 1481 = .ok (.aload_n 0, 1) := by decide +kernel
theorem dLw_1482 : decode code 1482 = .ok (.iload_n 3, 1) := by decide +kernel
theorem dLw_1483 : decode code 1483 = .ok (.iconst 2, 1) := by decide +kernel
theorem dLw_1484 : decode code 1484 = .ok (.iadd, 1) := by decide +kernel
theorem dLw_1485 : decode code 1485 = .ok (.iaload, 1) := by decide +kernel
theorem dLw_1486 : decode code 1486 = .ok (.aload_n 0, 1) := by decide +kernel
theorem dLw_1487 : decode code 1487 = .ok (.iload_n 3, 1) := by decide +kernel
theorem dLw_1488 : decode code 1488 = .ok (.iconst 3, 1) := by decide +kernel
theorem dLw_1489 : decode code 1489 = .ok (.iadd, 1) := by decide +kernel
theorem dLw_1490 : decode code 1490 = .ok (.iaload, 1) := by decide +kernel
theorem dLw_1491 : decode code 1491 = .ok (.aload_n 0, 1) := by decide +kernel
theorem dLw_1492 : decode code 1492 = .ok (.iload_n 3, 1) := by decide +kernel
theorem dLw_1493 : decode code 1493 = .ok (.iconst 4, 1) := by decide +kernel
theorem dLw_1494 : decode code 1494 = .ok (.iadd, 1) := by decide +kernel
theorem dLw_1495 : decode code 1495 = .ok (.iaload, 1) := by decide +kernel
theorem dLw_1496 : decode code 1496 = .ok (.invokevirtual 163, 3) := by decide +kernel
theorem dLw_1499 : decode code 1499 = .ok (.if_icmp .eq 199, 3) := by decide +kernel
theorem dLw_1502 : decode code 1502 = .ok (.iconst 0, 1) := by decide +kernel
theorem dLw_1503 : decode code 1503 = .ok (.ireturn, 1) := by decide +kernel
theorem dLw_1504 : decode code 1504 = .ok (.aload_n 1, 1) := by decide +kernel
theorem dLw_1505 : decode code 1505 = .ok (.aload_n 0, 1) := by decide +kernel
theorem dLw_1506 : decode code 1506 = .ok (.iload_n 3, 1) := by decide +kernel
theorem dLw_1507 : decode code 1507 = .ok (.iconst 1, 1) := by decide +kernel
theorem dLw_1508 : decode code 1508 = .ok (.iadd, 1) := by decide +kernel
theorem dLw_1509 : decode code 1509 = .ok (.iaload, 1) := by decide +kernel
theorem dLw_1510 : decode code 1510 = .ok (.aload_n 0, 1) := by decide +kernel
theorem dLw_1511 : decode code 1511 = .ok (.iload_n 3, 1) := by decide +kernel
theorem dLw_1512 : decode code 1512 = .ok (.iconst 2, 1) := by decide +kernel
theorem dLw_1513 : decode code 1513 = .ok (.iadd, 1) := by decide +kernel
theorem dLw_1514 : decode code 1514 = .ok (.iaload, 1) := by decide +kernel
theorem dLw_1515 : decode code 1515 = .ok (.aload_n 0, 1) := by decide +kernel
theorem dLw_1516 : decode code 1516 = .ok (.iload_n 3, 1) := by decide +kernel
theorem dLw_1517 : decode code 1517 = .ok (.iconst 3, 1) := by decide +kernel
theorem dLw_1518 : decode code 1518 = .ok (.iadd, 1) := by decide +kernel
theorem dLw_1519 : decode code 1519 = .ok (.iaload, 1) := by decide +kernel
theorem dLw_1520 : decode code 1520 = .ok (.aload_n 0, 1) := by decide +kernel
theorem dLw_1521 : decode code 1521 = .ok (.iload_n 3, 1) := by decide +kernel
theorem dLw_1522 : decode code 1522 = .ok (.iconst 4, 1) := by decide +kernel
theorem dLw_1523 : decode code 1523 = .ok (.iadd, 1) := by decide +kernel
theorem dLw_1524 : decode code 1524 = .ok (.iaload, 1) := by decide +kernel
theorem dLw_1525 : decode code 1525 = .ok (.ifCond .eq 7, 3) := by decide +kernel
theorem dLw_1528 : decode code 1528 = .ok (.iconst 1, 1) := by decide +kernel
theorem dLw_1529 : decode code 1529 = .ok (.goto 4, 3) := by decide +kernel
theorem dLw_1532 : decode code 1532 = .ok (.iconst 0, 1) := by decide +kernel
theorem dLw_1533 : decode code 1533 = .ok (.invokevirtual 164, 3) := by decide +kernel
theorem dLw_1536 : decode code 1536 = .ok (.aload_n 2, 1) := by decide +kernel
theorem dLw_1537 : decode code 1537 = .ok (.aload_n 0, 1) := by decide +kernel
theorem dLw_1538 : decode code 1538 = .ok (.iload_n 3, 1) := by decide +kernel
theorem dLw_1539 : decode code 1539 = .ok (.iconst 1, 1) := by decide +kernel
theorem dLw_1540 : decode code 1540 = .ok (.iadd, 1) := by decide +kernel
theorem dLw_1541 : decode code 1541 = .ok (.iaload, 1) := by decide +kernel
theorem dLw_1542 : decode code 1542 = .ok (.aload_n 0, 1) := by decide +kernel
theorem dLw_1543 : decode code 1543 = .ok (.iload_n 3, 1) := by decide +kernel
theorem dLw_1544 : decode code 1544 = .ok (.iconst 2, 1) := by decide +kernel
theorem dLw_1545 : decode code 1545 = .ok (.iadd, 1) := by decide +kernel
theorem dLw_1546 : decode code 1546 = .ok (.iaload, 1) := by decide +kernel
theorem dLw_1547 : decode code 1547 = .ok (.aload_n 0, 1) := by decide +kernel
theorem dLw_1548 : decode code 1548 = .ok (.iload_n 3, 1) := by decide +kernel
theorem dLw_1549 : decode code 1549 = .ok (.iconst 3, 1) := by decide +kernel
theorem dLw_1550 : decode code 1550 = .ok (.iadd, 1) := by decide +kernel
theorem dLw_1551 : decode code 1551 = .ok (.iaload, 1) := by decide +kernel
theorem dLw_1552 : decode code 1552 = .ok (.aload_n 0, 1) := by decide +kernel
theorem dLw_1553 : decode code 1553 = .ok (.iload_n 3, 1) := by decide +kernel
theorem dLw_1554 : decode code 1554 = .ok (.iconst 4, 1) := by decide +kernel
theorem dLw_1555 : decode code 1555 = .ok (.iadd, 1) := by decide +kernel
theorem dLw_1556 : decode code 1556 = .ok (.iaload, 1) := by decide +kernel
theorem dLw_1557 : decode code 1557 = .ok (.ifCond .eq 7, 3) := by decide +kernel
theorem dLw_1560 : decode code 1560 = .ok (.iconst 1, 1) := by decide +kernel
theorem dLw_1561 : decode code 1561 = .ok (.goto 4, 3) := by decide +kernel
theorem dLw_1564 : decode code 1564 = .ok (.iconst 0, 1) := by decide +kernel
theorem dLw_1565 : decode code 1565 = .ok (.invokevirtual 168, 3) := by decide +kernel
theorem dLw_1568 : decode code 1568 = .ok (.if_icmp .eq 130, 3) := by decide +kernel
theorem dLw_1571 : decode code 1571 = .ok (.iconst 0, 1) := by decide +kernel
theorem dLw_1572 : decode code 1572 = .ok (.ireturn, 1) := by decide +kernel
theorem dLw_1573 : decode code 1573 = .ok (.aload_n 1, 1) := by decide +kernel
theorem dLw_1574 : decode code 1574 = .ok (.aload_n 0, 1) := by decide +kernel
theorem dLw_1575 : decode code 1575 = .ok (.iload_n 3, 1) := by decide +kernel
theorem dLw_1576 : decode code 1576 = .ok (.iconst 1, 1) := by decide +kernel
theorem dLw_1577 : decode code 1577 = .ok (.iadd, 1) := by decide +kernel
theorem dLw_1578 : decode code 1578 = .ok (.iaload, 1) := by decide +kernel
theorem dLw_1579 : decode code 1579 = .ok (.aload_n 0, 1) := by decide +kernel
theorem dLw_1580 : decode code 1580 = .ok (.iload_n 3, 1) := by decide +kernel
theorem dLw_1581 : decode code 1581 = .ok (.iconst 2, 1) := by decide +kernel
theorem dLw_1582 : decode code 1582 = .ok (.iadd, 1) := by decide +kernel
theorem dLw_1583 : decode code 1583 = .ok (.iaload, 1) := by decide +kernel
theorem dLw_1584 : decode code 1584 = .ok (.aload_n 0, 1) := by decide +kernel
theorem dLw_1585 : decode code 1585 = .ok (.iload_n 3, 1) := by decide +kernel
theorem dLw_1586 : decode code 1586 = .ok (.iconst 3, 1) := by decide +kernel
theorem dLw_1587 : decode code 1587 = .ok (.iadd, 1) := by decide +kernel
theorem dLw_1588 : decode code 1588 = .ok (.iaload, 1) := by decide +kernel
theorem dLw_1589 : decode code 1589 = .ok (.invokevirtual 169, 3) := by decide +kernel
theorem dLw_1592 : decode code 1592 = .ok (.aload_n 2, 1) := by decide +kernel
theorem dLw_1593 : decode code 1593 = .ok (.aload_n 0, 1) := by decide +kernel
theorem dLw_1594 : decode code 1594 = .ok (.iload_n 3, 1) := by decide +kernel
theorem dLw_1595 : decode code 1595 = .ok (.iconst 1, 1) := by decide +kernel
theorem dLw_1596 : decode code 1596 = .ok (.iadd, 1) := by decide +kernel
theorem dLw_1597 : decode code 1597 = .ok (.iaload, 1) := by decide +kernel
theorem dLw_1598 : decode code 1598 = .ok (.aload_n 0, 1) := by decide +kernel
theorem dLw_1599 : decode code 1599 = .ok (.iload_n 3, 1) := by decide +kernel
theorem dLw_1600 : decode code 1600 = .ok (.iconst 2, 1) := by decide +kernel
theorem dLw_1601 : decode code 1601 = .ok (.iadd, 1) := by decide +kernel
theorem dLw_1602 : decode code 1602 = .ok (.iaload, 1) := by decide +kernel
theorem dLw_1603 : decode code 1603 = .ok (.aload_n 0, 1) := by decide +kernel
theorem dLw_1604 : decode code 1604 = .ok (.iload_n 3, 1) := by decide +kernel
theorem dLw_1605 : decode code 1605 = .ok (.iconst 3, 1) := by decide +kernel
theorem dLw_1606 : decode code 1606 = .ok (.iadd, 1) := by decide +kernel
theorem dLw_1607 : decode code 1607 = .ok (.iaload, 1) := by decide +kernel
theorem dLw_1608 : decode code 1608 = .ok (.invokevirtual 172, 3) := by decide +kernel
theorem dLw_1611 : decode code 1611 = .ok (.if_icmp .eq 87, 3) := by decide +kernel
theorem dLw_1614 : decode code 1614 = .ok (.iconst 0, 1) := by decide +kernel
theorem dLw_1615 : decode code 1615 = .ok (.ireturn, 1) := by decide +kernel
theorem dLw_1616 : decode code 1616 = .ok (.aload_n 1, 1) := by decide +kernel
theorem dLw_1617 : decode code 1617 = .ok (.aload_n 0, 1) := by decide +kernel
theorem dLw_1618 : decode code 1618 = .ok (.iload_n 3, 1) := by decide +kernel
theorem dLw_1619 : decode code 1619 = .ok (.iconst 1, 1) := by decide +kernel
theorem dLw_1620 : decode code 1620 = .ok (.iadd, 1) := by decide +kernel
theorem dLw_1621 : decode code 1621 = .ok (.iaload, 1) := by decide +kernel
theorem dLw_1622 : decode code 1622 = .ok (.invokevirtual 173, 3) := by decide +kernel
theorem dLw_1625 : decode code 1625 = .ok (.aload_n 2, 1) := by decide +kernel
theorem dLw_1626 : decode code 1626 = .ok (.aload_n 0, 1) := by decide +kernel
theorem dLw_1627 : decode code 1627 = .ok (.iload_n 3, 1) := by decide +kernel
theorem dLw_1628 : decode code 1628 = .ok (.iconst 1, 1) := by decide +kernel
theorem dLw_1629 : decode code 1629 = .ok (.iadd, 1) := by decide +kernel
theorem dLw_1630 : decode code 1630 = .ok (.iaload, 1) := by decide +kernel
theorem dLw_1631 : decode code 1631 = .ok (.invokevirtual 176, 3) := by decide +kernel
theorem dLw_1634 : decode code 1634 = .ok (.if_icmp .eq 64, 3) := by decide +kernel
theorem dLw_1637 : decode code 1637 = .ok (.iconst 0, 1) := by decide +kernel
theorem dLw_1638 : decode code 1638 = .ok (.ireturn, 1) := by decide +kernel
theorem dLw_1639 : decode code 1639 = .ok (.aload_n 1, 1) := by decide +kernel
theorem dLw_1640 : decode code 1640 = .ok (.invokevirtual 177, 3) := by decide +kernel
theorem dLw_1643 : decode code 1643 = .ok (.aload_n 2, 1) := by decide +kernel
theorem dLw_1644 : decode code 1644 = .ok (.invokevirtual 181, 3) := by decide +kernel
theorem dLw_1647 : decode code 1647 = .ok (.if_icmp .eq 51, 3) := by decide +kernel
theorem dLw_1650 : decode code 1650 = .ok (.iconst 0, 1) := by decide +kernel
theorem dLw_1651 : decode code 1651 = .ok (.ireturn, 1) := by decide +kernel
theorem dLw_1652 : decode code 1652 = .ok (.aload_n 1, 1) := by decide +kernel
theorem dLw_1653 : decode code 1653 = .ok (.aload_n 0, 1) := by decide +kernel
theorem dLw_1654 : decode code 1654 = .ok (.iload_n 3, 1) := by decide +kernel
theorem dLw_1655 : decode code 1655 = .ok (.iconst 1, 1) := by decide +kernel
theorem dLw_1656 : decode code 1656 = .ok (.iadd, 1) := by decide +kernel
theorem dLw_1657 : decode code 1657 = .ok (.iaload, 1) := by decide +kernel
theorem dLw_1658 : decode code 1658 = .ok (.invokevirtual 182, 3) := by decide +kernel
theorem dLw_1661 : decode code 1661 = .ok (.aload_n 2, 1) := by decide +kernel
theorem dLw_1662 : decode code 1662 = .ok (.aload_n 0, 1) := by decide +kernel
theorem dLw_1663 : decode code 1663 = .ok (.iload_n 3, 1) := by decide +kernel
theorem dLw_1664 : decode code 1664 = .ok (.iconst 1, 1) := by decide +kernel
theorem dLw_1665 : decode code 1665 = .ok (.iadd, 1) := by decide +kernel
theorem dLw_1666 : decode code 1666 = .ok (.iaload, 1) := by decide +kernel
theorem dLw_1667 : decode code 1667 = .ok (.invokevirtual 186, 3) := by decide +kernel
theorem dLw_1670 : decode code 1670 = .ok (.if_icmp .eq 28, 3) := by decide +kernel
theorem dLw_1673 : decode code 1673 = .ok (.iconst 0, 1) := by decide +kernel
theorem dLw_1674 : decode code 1674 = .ok (.ireturn, 1) := by decide +kernel
theorem dLw_1675 : decode code 1675 = .ok (.aload_n 1, 1) := by decide +kernel
theorem dLw_1676 : decode code 1676 = .ok (.aload_n 0, 1) := by decide +kernel
theorem dLw_1677 : decode code 1677 = .ok (.iload_n 3, 1) := by decide +kernel
theorem dLw_1678 : decode code 1678 = .ok (.iconst 1, 1) := by decide +kernel
theorem dLw_1679 : decode code 1679 = .ok (.iadd, 1) := by decide +kernel
theorem dLw_1680 : decode code 1680 = .ok (.iaload, 1) := by decide +kernel
theorem dLw_1681 : decode code 1681 = .ok (.invokevirtual 187, 3) := by decide +kernel
theorem dLw_1684 : decode code 1684 = .ok (.aload_n 2, 1) := by decide +kernel
theorem dLw_1685 : decode code 1685 = .ok (.aload_n 0, 1) := by decide +kernel
theorem dLw_1686 : decode code 1686 = .ok (.iload_n 3, 1) := by decide +kernel
theorem dLw_1687 : decode code 1687 = .ok (.iconst 1, 1) := by decide +kernel
theorem dLw_1688 : decode code 1688 = .ok (.iadd, 1) := by decide +kernel
theorem dLw_1689 : decode code 1689 = .ok (.iaload, 1) := by decide +kernel
theorem dLw_1690 : decode code 1690 = .ok (.invokevirtual 190, 3) := by decide +kernel
theorem dLw_1693 : decode code 1693 = .ok (.if_icmp .eq 5, 3) := by decide +kernel
theorem dLw_1696 : decode code 1696 = .ok (.iconst 0, 1) := by decide +kernel
theorem dLw_1697 : decode code 1697 = .ok (.ireturn, 1) := by decide +kernel
theorem dLw_1698 : decode code 1698 = .ok (.iinc 3 6, 3) := by decide +kernel
theorem dLw_1701 : decode code 1701 = .ok (.goto (-1683), 3) := by decide +kernel
theorem dLw_1704 : decode code 1704 = .ok (.iconst 1, 1) := by decide +kernel
theorem dLw_1705 : decode code 1705 = .ok (.ireturn, 1) := by decide +kernel
